/-! the model: its walk, its loops -/
def MpR (k : Nat → Nat) (f : Nat → Int32) : Prop := ∀ p, p < 169 → f p = nI (k p)
def qN (s : S3) : Nat := if s.2.2 = true then (if flB s.1 s.2.1 = true then 0 else 1) else (if flB s.1 s.2.1 = true then 3 else 2)
def gN (kk q : Nat) : Nat := if kk = 1 then q ^^^ 1 else if kk = 2 then q ^^^ 2 else 3 - q
theorem qN_4 (s : S3) : qN s < 4 := by
  unfold qN
  split <;> split <;> omega
theorem gN_4 : ∀ q, q < 4 → ∀ kk, gN kk q < 4 := by
  intro q hq kk
  unfold gN
  rcases (show q = 0 ∨ q = 1 ∨ q = 2 ∨ q = 3 by omega) with rfl | rfl | rfl | rfl <;> (split <;> first | decide | (split <;> decide))
theorem t1_tab : ∀ q, q < 4 → (if nI q = 0 then (1 : Int32) else if nI q = 1 then 1 else 0) = nI (1 - q / 2) := by decide
theorem t2_tab : ∀ q, q < 4 → (if nI q = 0 then (1 : Int32) else if nI q = 2 then 1 else 0) = nI (1 - q % 2) := by decide
theorem t3_tab : ∀ q, q < 4 → (if nI q = 2 then (1 : Int32) else if nI q = 3 then 1 else 0) = bI (decide (q / 2 = 1)) := by decide
theorem x1_tab : ∀ q, q < 4 → nI q ^^^ 1 = nI (q ^^^ 1) := by decide
theorem x2_tab : ∀ q, q < 4 → nI q ^^^ 2 = nI (q ^^^ 2) := by decide
theorem x3_tab : ∀ q, q < 4 → (3 : Int32) - nI q = nI (3 - q) := by decide
theorem ceN_dm {s : S3} (h : s.2.1 < 12) : ceN s / 12 = s.1 ∧ ceN s % 12 = s.2.1 := by unfold ceN; omega
theorem m_falls {n : Nat} (hn : n < 144) {Q : Int32 → Prop} (h : Q (bI (flB (n / 12) (n % 12)))) : wX6_falls (nI n) Q := by
  unfold wX6_falls
  rw [l12, pk_div (by omega) (by omega) (by omega), jr_nI (by omega) (by omega) (by omega), nI_add, odd_I (by omega)]
  exact h
theorem m_behind {s : S3} (h1 : s.1 < 12) (h2 : s.2.1 < 12) {Q : Int32 → Prop} (h : Q (nI (enP s))) : wX6_behind (nI (ceN s)) (bI s.2.2) Q := by
  obtain ⟨e1, e2⟩ := ceN_dm h2
  unfold wX6_behind
  refine m_falls (by unfold ceN; omega) ?_
  rw [e1, e2, l12, pk_div (by unfold ceN; omega) (by omega) (by omega), jr_nI (by unfold ceN; omega) (by omega) (by omega), e1, e2]
  have f1 : (if bI s.2.2 = 0 then (0 : Int32) else 1) = nI (if s.2.2 = true then 1 else 0) := by cases s.2.2 <;> rfl
  have f2 : (if bI (flB s.1 s.2.1) = bI s.2.2 then (1 : Int32) else 0) = nI (if rtB s = true then 1 else 0) := by
    unfold rtB
    cases flB s.1 s.2.1 <;> cases s.2.2 <;> rfl
  rw [f1, f2, nI_add, nI_add, l13, pk_mul, nI_add]
  have e : 13 * (s.1 + if s.2.2 = true then 1 else 0) + (s.2.1 + if rtB s = true then 1 else 0) = enP s := by
    unfold enP eY eX
    split <;> split <;> omega
  rw [e]; exact h
theorem m_quarter {s : S3} (h1 : s.1 < 12) (h2 : s.2.1 < 12) {Q : Int32 → Prop} (h : Q (nI (qN s))) : wX6_quarter (nI (ceN s)) (bI s.2.2) Q := by
  obtain ⟨e1, e2⟩ := ceN_dm h2
  unfold wX6_quarter
  unfold qN at h
  cases hd : s.2.2 with
  | true =>
    rw [hd, if_pos rfl] at h
    rw [bI_t, if_neg (by decide)]
    refine m_falls (by unfold ceN; omega) ?_
    rw [e1, e2]
    cases hf : flB s.1 s.2.1 with
    | true => rw [hf] at h; exact h
    | false => rw [hf] at h; exact h
  | false =>
    rw [hd, if_neg (by decide)] at h
    rw [bI_f, if_pos rfl]
    refine m_falls (by unfold ceN; omega) ?_
    rw [e1, e2]
    cases hf : flB s.1 s.2.1 with
    | true => rw [hf] at h; exact h
    | false => rw [hf] at h; exact h
theorem orI {a b n : Nat} (ha : a < 2 ^ 31) (hb : b < 2 ^ 31) (hn : n < 2 ^ 31) : (if nI n = nI a then (1 : Int32) else if nI n = nI b then 1 else 0) = bI (decide (n = a ∨ n = b)) := by
  by_cases q1 : n = a
  · rw [if_pos (by rw [q1]), decide_eq_true (Or.inl q1)]; rfl
  · rw [if_neg (fun z => q1 (nI_inj hn ha z))]
    by_cases q2 : n = b
    · rw [if_pos (by rw [q2]), decide_eq_true (Or.inr q2)]; rfl
    · rw [if_neg (fun z => q2 (nI_inj hn hb z)), decide_eq_false (fun z => by rcases z with z | z; exact q1 z; exact q2 z)]; rfl
theorem orI0 {b n : Nat} (hb : b < 2 ^ 31) (hn : n < 2 ^ 31) : (if nI n = 0 then (1 : Int32) else if nI n = nI b then 1 else 0) = bI (decide (n = 0 ∨ n = b)) := orI (a := 0) (by omega) hb hn
theorem m_goesOn {r c : Nat} (hR : RC r c) {k : Nat → Nat} (hk : ∀ p, k p ≤ 3) {pts : Nat → Int32} (hp : MpR k pts) {y x q : Nat} (hy : y < 13) (hx : x < 13) (hq : q < 4) {Q : Int32 → Prop} (h : Q (nI (gN (kdr r c k y x) q))) : wX6_goesOn (nI r) (nI c) pts (nI (13 * y + x)) (nI q) Q := by
  obtain ⟨r1, r2, r3, r4⟩ := hR
  unfold wX6_goesOn
  rw [l13, pk_div (by omega) (by omega) (by omega), jr_nI (by omega) (by omega) (by omega), show (13 * y + x) / 13 = y by omega, show (13 * y + x) % 13 = x by omega, l2, pk_mul, pk_mul, orI0 (by omega) (by omega), orI0 (by omega) (by omega)]
  unfold wX6_goesOn_J99
  unfold kdr at h
  by_cases a1 : y = 0 ∨ y = 2 * r
  · rw [if_pos a1] at h
    rw [decide_eq_true a1, bI_t, if_neg (by decide), if_neg (by decide), x1_tab q hq]
    exact h
  · rw [if_neg a1] at h
    rw [decide_eq_false a1, bI_f, if_pos rfl, if_pos rfl]
    by_cases a2 : x = 0 ∨ x = 2 * c
    · rw [if_pos a2] at h
      rw [decide_eq_true a2, bI_t, if_neg (by decide), if_neg (by decide)]
      have := x2_tab q hq
      rw [this]
      exact h
    · rw [if_neg a2] at h
      rw [decide_eq_false a2, bI_f, if_pos rfl]
      refine ⟨vp_in_nI (by omega) (by omega), ?_⟩
      rw [nI_clamp (by omega), hp _ (by omega)]
      have h3 := hk (13 * y + x)
      have e1 : (if nI (k (13 * y + x)) = 1 then (1 : Int32) else 0) = bI (decide (k (13 * y + x) = 1)) := eq_I (b := 1) (by omega) (by omega)
      have e2 : (if nI (k (13 * y + x)) = nI 2 then (1 : Int32) else 0) = bI (decide (k (13 * y + x) = 2)) := eq_I (b := 2) (by omega) (by omega)
      rw [e1, e2]
      unfold gN at h
      by_cases k1 : k (13 * y + x) = 1
      · rw [if_pos k1] at h
        rw [decide_eq_true k1, bI_t, if_neg (by decide), x1_tab q hq]
        exact h
      · rw [if_neg k1] at h
        rw [decide_eq_false k1, bI_f, if_pos rfl]
        by_cases k2 : k (13 * y + x) = 2
        · rw [if_pos k2] at h
          rw [decide_eq_true k2, bI_t, if_neg (by decide)]
          have := x2_tab q hq
          rw [this]
          exact h
        · rw [if_neg k2] at h
          rw [decide_eq_false k2, bI_f, if_pos rfl, x3_tab q hq]
          exact h
theorem walk_N {r c : Nat} {k : Nat → Nat} {s : S3} (h : inG r c s) : 1 - gN (kdr r c k (eY s) (eX s)) (qN s) / 2 ≤ eY s ∧ 1 - gN (kdr r c k (eY s) (eX s)) (qN s) % 2 ≤ eX s ∧ ceN (nx r c k s) = 12 * (eY s - (1 - gN (kdr r c k (eY s) (eX s)) (qN s) / 2)) + (eX s - (1 - gN (kdr r c k (eY s) (eX s)) (qN s) % 2)) ∧ (nx r c k s).2.2 = decide (gN (kdr r c k (eY s) (eX s)) (qN s) / 2 = 1) := by
  have ho := e_odd s
  obtain ⟨a, b, d⟩ := s
  obtain ⟨h1, h2⟩ := h
  dsimp only at h1 h2
  unfold nx
  generalize hkk : kdr r c k (eY (a, b, d)) (eX (a, b, d)) = kk
  have hy1 : eY (a, b, d) = 0 → kk = 1 := by
    intro q
    rw [← hkk, q, kdr_y0]
  have hx1 : eX (a, b, d) = 0 → kk = 2 := by
    intro q
    have hn : ¬ (eY (a, b, d) = 0 ∨ eY (a, b, d) = 2 * r) := by omega
    rw [← hkk]
    unfold kdr
    rw [if_neg hn, if_pos (Or.inl q)]
  clear hkk
  unfold nxK eY eX rtB flB qN gN ceN at *
  dsimp only at *
  by_cases q1 : kk = 1 <;> by_cases q2 : kk = 2 <;> by_cases hp : (a + b) % 2 = 1 <;> cases d <;> simp [q1, q2, hp, flB] at hy1 hx1 ho ⊢ <;> omega
theorem m_walk {r c : Nat} (hR : RC r c) {k : Nat → Nat} (hk : ∀ p, k p ≤ 3) {pts : Nat → Int32} (hp : MpR k pts) {s : S3} (hs : inG r c s) {nc nd : Int32} {Q : Int32 → Int32 → Prop} (h : Q (nI (ceN (nx r c k s))) (bI (nx r c k s).2.2)) : wX6_walk (nI r) (nI c) pts nc nd (nI (ceN s)) (bI s.2.2) Q := by
  obtain ⟨r1, r2, r3, r4⟩ := id hR
  have hb : s.1 < 2 * r ∧ s.2.1 < 2 * c := hs
  obtain ⟨e1, e2, e3, e4, e5⟩ := en_lt hR hs
  obtain ⟨w1, w2, w3, w4⟩ := walk_N (k := k) hs
  unfold wX6_walk
  refine m_behind (by omega) (by omega) (m_quarter (by omega) (by omega) ?_)
  show wX6_goesOn (nI r) (nI c) pts (nI (13 * eY s + eX s)) (nI (qN s)) _
  refine m_goesOn hR hk hp e1 e2 (qN_4 s) ?_
  have g4 := gN_4 (qN s) (qN_4 s) (kdr r c k (eY s) (eX s))
  rw [t1_tab _ g4, t2_tab _ g4, t3_tab _ g4, l13, pk_div (by omega) (by omega) (by omega), jr_nI (by omega) (by omega) (by omega), e4, e5, pk_sub w1, pk_sub w2, l12, pk_mul, nI_add, ← w3, ← w4]
  exact h
/-- the model's rows, steps so far -/
def DnR (m : MS) (f : Nat → Int32) : Prop := ∀ t, t < m.1 → f (ceN (m.2.2.2.1 t)) = bI (m.2.2.2.1 t).2.2
def RoR (m : MS) (f : Nat → Int32) : Prop := ∀ t, t < m.1 → f t = nI (ceN (m.2.2.2.1 t))
def MdR (m : MS) (loopOf isDown row begins : Nat → Int32) (loops : Int32) : Prop := loops = nI m.2.1 ∧ OwR m loopOf ∧ DnR m isDown ∧ RoR m row ∧ ∀ l, l ≤ m.2.1 → begins l = nI (m.2.2.2.2 l)
theorem DnR_step {r c : Nat} {k : Nat → Nat} {n0 : Nat} {m : MS} (P : PM r c k n0 m) {s : S3} {f : Nat → Int32} (h : DnR m f) (hf : m.2.2.1 (ceN s) = 0) : DnR (stM m s) (upd f (ceN s) (bI s.2.2)) := by
  intro t ht
  have ht2 : t < m.1 + 1 := ht
  show upd f (ceN s) (bI s.2.2) (ceN (sqU m.2.2.2.1 m.1 s t)) = bI (sqU m.2.2.2.1 m.1 s t).2.2
  unfold sqU
  by_cases q : t = m.1
  · rw [if_pos q, upd_s]
  · rw [if_neg q]
    have h2 := (PM_own P).2 t (by omega)
    rw [upd_n (fun e => h2 (by rw [e]; exact hf))]
    exact h t (by omega)
theorem RoR_step {m : MS} {s : S3} {f : Nat → Int32} (h : RoR m f) : RoR (stM m s) (upd f m.1 (nI (ceN s))) := by
  intro t ht
  have ht2 : t < m.1 + 1 := ht
  show upd f m.1 (nI (ceN s)) t = nI (ceN (sqU m.2.2.2.1 m.1 s t))
  unfold sqU
  rw [upd_e]
  by_cases q : t = m.1
  · rw [if_pos q, if_pos q]
  · rw [if_neg q, if_neg q]
    exact h t (by omega)
set_option maxHeartbeats 1000000 in
theorem m_loop1 {r c : Nat} (hR : RC r c) {k : Nat → Nat} (hk : ∀ p, k p ≤ 3) {pts : Nat → Int32} (hp : MpR k pts) {n0 : Nat} {s0 : S3} {m0 : MS} (hW : WkAt r c k n0 s0 s0 m0) {lo dn ro : Nat → Int32} (hO : OwR m0 lo) (hD : DnR m0 dn) (hRo : RoR m0 ro) {K : Int32 → (Nat → Int32) → (Nat → Int32) → (Nat → Int32) → Int32 → Int32 → Prop}
    (h : ∀ lo' dn' ro' c' d', OwR (wkM r c k 145 s0 m0) lo' → DnR (wkM r c k 145 s0 m0) dn' → RoR (wkM r c k 145 s0 m0) ro' → K (nI (wkM r c k 145 s0 m0).1) lo' dn' ro' c' d') : lX6_layLoops_78 (nI r) (nI c) pts (nI m0.2.1) K FU (nI m0.1) lo dn ro (nI (ceN s0)) (bI s0.2.2) := by
  obtain ⟨r1, r2, r3, r4⟩ := id hR
  unfold lX6_layLoops_78
  refine lp_up (fun i a => ∃ (s : S3) (m : MS) (f : Nat), m.1 = i ∧ WkAt r c k n0 s0 s m ∧ m.2.1 = m0.2.1 ∧ 145 ≤ m.1 + f ∧ wkM r c k f s m = wkM r c k 145 s0 m0 ∧ a.1 = nI m.1 ∧ OwR m a.2.1 ∧ DnR m a.2.2.1 ∧ RoR m a.2.2.2.1 ∧ a.2.2.2.2.1 = nI (ceN s) ∧ a.2.2.2.2.2 = bI s.2.2) 145 ?_ FU m0.1 _ ⟨s0, m0, 145, rfl, hW, rfl, by omega, rfl, rfl, hO, hD, hRo, rfl, rfl⟩ (by have := (hW.lp r2 r4).2; omega) (FU_of (by omega))
  rintro RR i ⟨x1, lo', dn', ro', x5, x6⟩ ⟨s, m, f, hi, hA, hlp, hf, hF, g1, gO, gD, gR, g5, g6⟩ hile hRR
  dsimp only at g1 gO gD gR g5 g6 ⊢
  subst g1; subst g5; subst g6
  unfold bX6_layLoops_78
  have hl := hA.lp r2 r4
  have hown := PM_own hA.1
  have hG := hA.2.1
  have hb : s.1 < 2 * r ∧ s.2.1 < 2 * c := hG
  have hlt : ceN s < 144 := by unfold ceN; omega
  refine ⟨vp_in_nI hlt (by omega), ?_⟩
  rw [nI_clamp (by omega), gO _ hlt]
  by_cases hz : m.2.2.1 (ceN s) = 0
  · rw [if_pos hz, if_pos rfl]
    have h144 := hA.room r2 r4 hz
    refine ⟨vp_in_nI h144 (by omega), ?_⟩
    refine m_walk hR hk hp hG ?_
    rw [nI_clamp (by omega), nI_1, vB (isB_b _)]
    have hf2 : f ≠ 0 := by omega
    obtain ⟨f', rfl⟩ : ∃ f', f = f' + 1 := ⟨f - 1, by omega⟩
    have e : wkM r c k (f' + 1) s m = wkM r c k f' (nx r c k s) (stM m s) := if_pos hz
    rw [e] at hF
    refine hRR (by omega) _ ⟨nx r c k s, stM m s, f', by show m.1 + 1 = i + 1; omega, hA.step hz, hlp, by show 145 ≤ m.1 + 1 + f'; omega, hF, rfl, ?_, DnR_step hA.1 gD hz, RoR_step gR, rfl, rfl⟩
    have := OwR_step gO hlt
    rw [hlp] at this
    exact this
  · rw [if_neg hz, if_neg (neg_ne (by have := hown.1 (ceN s); omega) (by decide))]
    have e : wkM r c k f s m = m := by
      cases f with
      | zero => rfl
      | succ f => exact if_neg hz
    rw [e] at hF
    rw [hF] at gO gD gR ⊢
    exact h _ _ _ _ _ gO gD gR
set_option maxHeartbeats 1000000 in
theorem m_layLoops {r c : Nat} (hR : RC r c) {k : Nat → Nat} (hk : ∀ p, k p ≤ 3) {pts : Nat → Int32} (hp : MpR k pts) {lo dn ro be : Nat → Int32} {lp nc nd : Int32} {Q : Int32 → (Nat → Int32) → (Nat → Int32) → (Nat → Int32) → (Nat → Int32) → Int32 → Int32 → Int32 → Prop}
    (h : ∀ lo' dn' ro' be' nc' nd', MdR (LY r c k) lo' dn' ro' be' (nI (LY r c k).2.1) → Q (nI (LY r c k).2.1) lo' dn' ro' be' (nI (LY r c k).2.1) nc' nd') : wX6_layLoops (nI r) (nI c) pts lo dn ro be lp nc nd Q := by
  obtain ⟨r1, r2, r3, r4⟩ := id hR
  unfold wX6_layLoops lX6_layLoops_2
  refine lp_up (fun i a => a.1 = nI i ∧ ∀ j, j < i → a.2 j = -9) 144 ?_ FU 0 _ ⟨rfl, fun j hj => absurd hj (Nat.not_lt_zero _)⟩ (Nat.zero_le _) (FU_of (by omega))
  rintro RR i ⟨x1, lo⟩ ⟨g1, g2⟩ hi hRR
  dsimp only at g1 g2 ⊢
  subst g1
  unfold bX6_layLoops_2
  rw [l144]
  by_cases q : i < 144
  · rw [if_neg (nI_ge q (by omega))]
    refine ⟨vp_in_nI q (by omega), ?_⟩
    rw [nI_clamp (by omega), nI_1]
    refine hRR q _ ⟨rfl, fun j hj => ?_⟩
    show upd lo i (-9) j = -9
    rw [upd_e]
    by_cases z : j = i
    · rw [if_pos z]
    · rw [if_neg z]; exact g2 j (by omega)
  · rw [if_pos (nI_le (by omega) (by omega))]
    have : i = 144 := by omega
    subst this
    unfold wX6_layLoops_X23 lX6_layLoops_32
    clear hRR
    refine lp_up (fun i a => a.1 = nI (layM r c k i).1 ∧ a.2.1 = nI i ∧ OwR (layM r c k i) a.2.2.1 ∧ DnR (layM r c k i) a.2.2.2.1 ∧ RoR (layM r c k i) a.2.2.2.2.1 ∧ (∀ l, l < (layM r c k i).2.1 → a.2.2.2.2.2.1 l = nI ((layM r c k i).2.2.2.2 l)) ∧ a.2.2.2.2.2.2.1 = nI (layM r c k i).2.1) 144 ?_ FU 0 _ ⟨rfl, rfl, fun j hj => ?_, fun t ht => absurd ht (Nat.not_lt_zero _), fun t ht => absurd ht (Nat.not_lt_zero _), fun l hl => absurd hl (Nat.not_lt_zero _), rfl⟩ (Nat.zero_le _) (FU_of (by omega))
    · rintro RR i ⟨x1, x2, lo', dn', ro', be', x7, x8, x9⟩ ⟨g1, g2, gO, gD, gR, gB, g7⟩ hi hRR
      dsimp only at g1 g2 gO gD gR gB g7 ⊢
      subst g1; subst g2; subst g7
      obtain ⟨P, -⟩ := lay_ok (k := k) r2 r4 i hi
      have hlp := PM_lp r2 r4 P
      have hbn : (layM r c k i).2.2.2.2 (layM r c k i).2.1 = (layM r c k i).1 := P.2.2.2.2.2.2.2.1
      unfold bX6_layLoops_32
      rw [l144]
      by_cases q : i < 144
      · rw [if_neg (nI_ge q (by omega))]
        unfold wX6_isCell
        dsimp only
        rw [l12, pk_div (by omega) (by omega) (by omega), jr_nI (by omega) (by omega) (by omega), l2, pk_mul, pk_mul, nI_1]
        have hno : ¬ (i / 12 < 2 * r ∧ i % 12 < 2 * c ∧ (layM r c k i).2.2.1 i = 0) → RR (nI (layM r c k i).1, nI (i + 1), lo', dn', ro', be', nI (layM r c k i).2.1, x8, x9) := by
          intro hn
          have e : layM r c k (i + 1) = layM r c k i := if_neg hn
          refine hRR q _ ⟨?_, rfl, ?_, ?_, ?_, ?_, ?_⟩
          · rw [e]
          · rw [e]; exact gO
          · rw [e]; exact gD
          · rw [e]; exact gR
          · rw [e]; exact gB
          · rw [e]
        by_cases c1 : i / 12 < 2 * r
        · rw [if_neg (nI_ge c1 (by omega))]
          by_cases c2 : i % 12 < 2 * c
          · rw [if_neg (nI_ge c2 (by omega)), if_neg (by decide)]
            refine ⟨vp_in_nI q (by omega), ?_⟩
            rw [nI_clamp (by omega), gO i q]
            by_cases hz : (layM r c k i).2.2.1 i = 0
            · rw [if_pos hz, if_pos rfl]
              refine ⟨vp_in_nI (by omega) (by omega), ?_⟩
              have hA := lay_at q P c1 c2 hz
              have e : layM r c k (i + 1) = enM (wkM r c k 145 (i / 12, i % 12, true) (layM r c k i)) := if_pos ⟨c1, c2, hz⟩
              have hce : ceN (i / 12, i % 12, true) = i := by
                show 12 * (i / 12) + i % 12 = i
                omega
              have key := m_loop1 hR hk hp hA gO gD gR (K := wX6_layLoops_X146 (fun x32_1 x32_2 t_loopOf__32 t_isDown__32 t_row__32 t_begins__32 t_loops__32 t_nowCell__32 t_nowDown__32 => RR (x32_1, x32_2, t_loopOf__32, t_isDown__32, t_row__32, t_begins__32, t_loops__32, t_nowCell__32, t_nowDown__32)) (nI (layM r c k i).1) (nI i) be' (nI (layM r c k i).2.1)) (fun lo2 dn2 ro2 c2 d2 b1 b2 b3 => ?_)
              · rw [hce] at key
                exact key
              · unfold wX6_layLoops_X146
                have hwl := wk_lp (r := r) (c := c) (k := k) 145 (i / 12, i % 12, true) (layM r c k i)
                rw [nI_1, nI_1, nI_clamp (by omega)]
                refine hRR q _ ⟨?_, rfl, ?_, ?_, ?_, fun l hl => ?_, ?_⟩
                · rw [e]; rfl
                · rw [e]; exact OwR_en b1
                · rw [e]; exact b2
                · rw [e]; exact b3
                · rw [e] at hl ⊢
                  have hl2 : l < (wkM r c k 145 (i / 12, i % 12, true) (layM r c k i)).2.1 + 1 := hl
                  rw [hwl.1] at hl2
                  show upd be' (layM r c k i).2.1 _ l = nI (bgU (wkM r c k 145 (i / 12, i % 12, true) (layM r c k i)).2.2.2.2 ((wkM r c k 145 (i / 12, i % 12, true) (layM r c k i)).2.1 + 1) (wkM r c k 145 (i / 12, i % 12, true) (layM r c k i)).1 l)
                  rw [upd_e, hwl.1, hwl.2]
                  unfold bgU
                  rw [if_neg (by omega : ¬ l = (layM r c k i).2.1 + 1)]
                  by_cases z : l = (layM r c k i).2.1
                  · rw [if_pos z, z, hbn]
                  · rw [if_neg z]; exact gB l (by omega)
                · rw [e]
                  show nI ((layM r c k i).2.1 + 1) = nI ((wkM r c k 145 (i / 12, i % 12, true) (layM r c k i)).2.1 + 1)
                  rw [hwl.1]
            · have hown := (PM_own P).1 i
              rw [if_neg hz, if_neg (neg_ne (by omega) (by decide))]
              exact hno (fun z => hz z.2.2)
          · rw [if_pos (nI_le (by omega) (by omega)), if_pos rfl]
            exact hno (fun z => c2 z.2.1)
        · rw [if_pos (nI_le (by omega) (by omega)), if_pos rfl]
          exact hno (fun z => c1 z.1)
      · rw [if_pos (nI_le (by omega) (by omega))]
        have : i = 144 := by omega
        subst this
        unfold wX6_layLoops_X162
        refine ⟨vp_in_nI (by omega) (by omega), ?_⟩
        rw [nI_clamp (by omega)]
        refine h _ _ _ _ _ _ ⟨rfl, gO, gD, gR, fun l hl => ?_⟩
        have hl2 : l ≤ (layM r c k 144).2.1 := hl
        show upd be' (layM r c k 144).2.1 (nI (layM r c k 144).1) l = nI ((layM r c k 144).2.2.2.2 l)
        rw [upd_e]
        by_cases z : l = (layM r c k 144).2.1
        · rw [if_pos z, z, hbn]
        · rw [if_neg z]; exact gB l (by omega)
    · show lo j = if (0 : Nat) = 0 then -9 else nI (0 - 1)
      rw [if_pos rfl]
      exact g2 j hj
