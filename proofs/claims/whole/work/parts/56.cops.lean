/-! the component's answers -/
def toldP (p : Nat) : Nat := 100 * (p / 13) + p % 13
def toldS (s : S3) : Nat := 100 * s.1 + s.2.1
def kU (k : Nat → Nat) (p v : Nat) : Nat → Nat := fun q => if q = p then v else k q
theorem kU_3 {k : Nat → Nat} (hk : ∀ p, k p ≤ 3) {p v : Nat} (hv : v ≤ 3) : ∀ q, kU k p v q ≤ 3 := by
  intro q
  unfold kU
  split
  · exact hv
  · exact hk q
theorem LoR.f0 {r c : Nat} {k : Nat → Nat} (hR : RC r c) {count steps : Int32} {owners firsts ob ce en rg dn : Nat → Int32} (h : LoR (LY r c k) count steps owners firsts ob ce en rg dn) : firsts 0 = 0 := by
  obtain ⟨P, -⟩ := LY_fact k hR
  have h1 := h.2.2.2.1 0 (Nat.zero_le _)
  rw [P.2.2.2.2.2.2.1] at h1
  exact h1
theorem PlR.cpy {r c : Nat} {k : Nat → Nat} (hR : RC r c) {down across inner : Int32} {pts kinds nums : Nat → Int32} (R : PlR r c k down across inner pts kinds nums) (p2 k2 n2 : Nat → Int32) : PlR r c k down across inner (va_cpy pts p2 (0 : Int32).toNatClampNeg (0 : Int32).toNatClampNeg (60 : Int32).toNatClampNeg) (va_cpy kinds k2 (0 : Int32).toNatClampNeg (0 : Int32).toNatClampNeg (60 : Int32).toNatClampNeg) (va_cpy nums n2 (0 : Int32).toNatClampNeg (0 : Int32).toNatClampNeg (169 : Int32).toNatClampNeg) := by
  have e0 : (0 : Int32).toNatClampNeg = 0 := rfl
  have e60 : (60 : Int32).toNatClampNeg = 60 := nI_clamp (n := 60) (by omega)
  have e169 : (169 : Int32).toNatClampNeg = 169 := nI_clamp (n := 169) (by omega)
  rw [e0, e60, e169]
  have c60 : ∀ (f g : Nat → Int32) (j : Nat), j < 60 → va_cpy f g 0 0 60 j = f j := by
    intro f g j hj
    rw [pk_cpy_in (Nat.zero_le _) (by omega)]
    congr 1; omega
  have c169 : ∀ (f g : Nat → Int32) (j : Nat), j < 169 → va_cpy f g 0 0 169 j = f j := by
    intro f g j hj
    rw [pk_cpy_in (Nat.zero_le _) (by omega)]
    congr 1; omega
  obtain ⟨h1, h2, h3, h4, h5, h6⟩ := R
  refine ⟨h1, h2, h3, fun p hp hi => ?_, fun p hp hi => ?_, fun i h7 h8 => ?_⟩
  · have h60 := cnt_60 hR hi
    rw [c169 _ _ _ hp, c60 _ _ _ h60, c60 _ _ _ h60]
    exact h4 p hp hi
  · rw [c169 _ _ _ hp]; exact h5 p hp hi
  · rw [c60 _ _ _ h8]; exact h6 i h7 h8
theorem PlR.put {r c : Nat} {k : Nat → Nat} (hR : RC r c) {down across inner : Int32} {pts kinds nums : Nat → Int32} (R : PlR r c k down across inner pts kinds nums) {p v : Nat} (hi : inn r c p = true) : PlR r c (kU k p v) down across inner pts (upd kinds (cnt r c p) (nI v)) nums := by
  obtain ⟨h1, h2, h3, h4, h5, h6⟩ := R
  refine ⟨h1, h2, h3, fun q hq hiq => ?_, h5, fun i h7 h8 => ?_⟩
  · obtain ⟨g1, g2, g3⟩ := h4 q hq hiq
    refine ⟨g1, g2, ?_⟩
    rw [upd_e]
    unfold kU
    by_cases z : q = p
    · rw [if_pos (by rw [z]), if_pos z]
    · rw [if_neg (fun e => z (cnt_inj hiq hi e)), if_neg z]; exact g3
  · have := cnt_lt (inn_lt hR hi) hi
    rw [upd_e, if_neg (by omega)]
    exact h6 i h7 h8
theorem s_put {r c : Nat} {k : Nat → Nat} (hR : RC r c) {down across inner : Int32} {pts kinds nums : Nat → Int32} (R : PlR r c k down across inner pts kinds nums) {p v : Nat} (hi : inn r c p = true) {Q : (Nat → Int32) → Prop} (h : ∀ kinds', PlR r c (kU k p v) down across inner pts kinds' nums → Q kinds') : wX3_put kinds (nI (cnt r c p)) (nI v) Q := by
  have h60 := cnt_60 hR hi
  unfold wX3_put
  refine s_isIn ?_
  rw [isIn_in h60 (by omega), if_neg (by decide)]
  refine ⟨vp_in_nI h60 (by omega), ?_⟩
  rw [nI_clamp (by omega)]
  exact h _ (R.put hR hi)
def aPoint (r c : Nat) (k : Nat → Nat) (x : Int32) : Int32 := (plc r c x).elim (-1) (fun p => nI (k p))
theorem c_point {r c : Nat} {k : Nat → Nat} (hR : RC r c) {down across inner : Int32} {pts kinds nums : Nat → Int32} (R : PlR r c k down across inner pts kinds nums) {x : Int32} {Q : Int32 → Prop} (h : Q (aPoint r c k x)) : wX5_point kinds nums x Q := by
  unfold wX5_point
  unfold aPoint at h
  refine s_numOf hR R (fun hn => ?_) (fun p hp hi => ?_)
  · rw [hn] at h
    rw [if_neg (by decide)]
    exact h
  · rw [hp] at h
    have h60 := cnt_60 hR hi
    rw [if_pos (nI_pos' (by omega))]
    exact s_kindP hR R hi h
def bendsL (r c : Nat) (k : Nat → Nat) (m : MS) (l : Nat) : Nat := psC r c k m 0 (m.2.2.2.2 (l + 1)) - psC r c k m 0 (m.2.2.2.2 l)
theorem bends_le {r c : Nat} {k : Nat → Nat} {m : MS} {l : Nat} (h : m.2.2.2.2 l ≤ m.2.2.2.2 (l + 1)) : bendsL r c k m l ≤ lenL m l := by
  have key : ∀ d, psC r c k m 0 (m.2.2.2.2 l + d) ≤ psC r c k m 0 (m.2.2.2.2 l) + d := by
    intro d
    induction d with
    | zero => exact Nat.le_refl _
    | succ d ih =>
      have := psC_succ r c k m 0 (m.2.2.2.2 l + d)
      rw [show m.2.2.2.2 l + (d + 1) = m.2.2.2.2 l + d + 1 by omega]
      split at this <;> omega
  have := key (m.2.2.2.2 (l + 1) - m.2.2.2.2 l)
  rw [show m.2.2.2.2 l + (m.2.2.2.2 (l + 1) - m.2.2.2.2 l) = m.2.2.2.2 (l + 1) by omega] at this
  unfold bendsL lenL
  omega
noncomputable def aAlong (r c : Nat) (k : Nat → Nat) (x w : Int32) : Int32 := (lpI (LY r c k).2.1 x).elim (-1) (fun l => if w = 0 then nI (toldS ((LY r c k).2.2.2.1 ((LY r c k).2.2.2.2 l))) else if w = 1 then nI (lenL (LY r c k) l) else if w = 2 then nI (bendsL r c k (LY r c k) l) else if w = 3 then nI (lenL (LY r c k) l - bendsL r c k (LY r c k) l) else if w = 4 then ctE r c k l l else if w = 5 then nI (unE r c k (LY r c k) l) else -2)
theorem c_along {r c : Nat} {k : Nat → Nat} (hR : RC r c) {count steps : Int32} {owners firsts ob ce en rg dn : Nat → Int32} (hL : LoR (LY r c k) count steps owners firsts ob ce en rg dn) {arcs ties : Int32} {passes abs overs unders tied : Nat → Int32} (hC : CrR r c k arcs ties passes abs overs unders tied) {x w : Int32} {Q : Int32 → Prop} (h : Q (aAlong r c k x w)) : wX5_along count steps firsts ob ce passes overs unders x w Q := by
  obtain ⟨P, hn, h36⟩ := LY_fact k hR
  obtain ⟨a1, a2, a3, a4, a5⟩ := hL
  subst a1
  obtain ⟨c1, c2, c3, c4, c5, c6, c7⟩ := hC
  unfold wX5_along
  unfold aAlong at h
  refine s_has h36 (fun hno => ?_) (fun l hs hx hl => ?_)
  · rw [hno] at h
    rw [if_pos rfl]
    exact h
  · rw [hs] at h
    subst hx
    obtain ⟨b1, b2⟩ := bg_lim P hl
    rw [if_neg (by decide)]
    simp only [Option.elim_some] at h
    by_cases w0 : w = 0
    · rw [if_pos w0] at h ⊢
      refine s_first a4 h36 (by omega) (s_cellAtC (by omega) ?_)
      rw [(a5 _ (by omega)).2.1]
      exact h
    · rw [if_neg w0] at h ⊢
      by_cases w1 : w = 1
      · rw [if_pos w1] at h ⊢
        exact s_lengthOf hR a4 hl h
      · rw [if_neg w1] at h ⊢
        by_cases w2 : w = 2
        · rw [if_pos w2] at h ⊢
          unfold wX1_countBends
          exact s_countPasses (v := 0) hR c3 a4 hl (by omega) h
        · rw [if_neg w2] at h ⊢
          by_cases w3 : w = 3
          · rw [if_pos w3] at h ⊢
            refine s_lengthOf hR a4 hl ?_
            unfold wX1_countBends
            refine s_countPasses (v := 0) hR c3 a4 hl (by omega) ?_
            show Q (nI (lenL (LY r c k) l) - nI (bendsL r c k (LY r c k) l))
            rw [pk_sub (bends_le (show (LY r c k).2.2.2.2 l ≤ (LY r c k).2.2.2.2 (l + 1) by omega))]
            exact h
          · rw [if_neg w3] at h ⊢
            by_cases w4 : w = 4
            · rw [if_pos w4] at h ⊢
              exact s_countShared hR a5 c5 c6 (by omega) (by omega) h
            · rw [if_neg w4] at h ⊢
              by_cases w5 : w = 5
              · rw [if_pos w5] at h ⊢
                exact s_countUneven hR c3 a4 hl h
              · rw [if_neg w5] at h ⊢
                exact h
noncomputable def aStep (r c : Nat) (k : Nat → Nat) (x w : Int32) : Int32 := (lpI (LY r c k).2.1 x).elim (-1) (fun l => if w < 0 then -2 else if w ≤ 9999 then nI (toldS ((LY r c k).2.2.2.1 (stB (LY r c k) l w.toNatClampNeg))) else -2)
noncomputable def aEnd (r c : Nat) (k : Nat → Nat) (x w : Int32) : Int32 := (lpI (LY r c k).2.1 x).elim (-1) (fun l => if w < 0 then -2 else if w ≤ 9999 then nI (100 * eY ((LY r c k).2.2.2.1 (stB (LY r c k) l w.toNatClampNeg)) + eX ((LY r c k).2.2.2.1 (stB (LY r c k) l w.toNatClampNeg))) else -2)
theorem c_step {r c : Nat} {k : Nat → Nat} (hR : RC r c) {count steps : Int32} {owners firsts ob ce en rg dn : Nat → Int32} (hL : LoR (LY r c k) count steps owners firsts ob ce en rg dn) {x w : Int32} {Q : Int32 → Prop} (h : Q (aStep r c k x w)) : wX5_step count steps firsts ce x w Q := by
  obtain ⟨P, hn, h36⟩ := LY_fact k hR
  obtain ⟨a1, a2, a3, a4, a5⟩ := hL
  subst a1
  unfold wX5_step
  unfold aStep at h
  refine s_has h36 (fun hno => ?_) (fun l hs hx hl => ?_)
  · rw [hno] at h
    rw [if_pos rfl]
    exact h
  · rw [hs] at h
    subst hx
    rw [if_neg (by decide)]
    simp only [Option.elim_some] at h
    by_cases w0 : w < 0
    · rw [if_pos w0] at h ⊢; exact h
    · rw [if_neg w0] at h ⊢
      obtain ⟨j, hj, rfl⟩ := nI_of w0
      rw [nI_clamp hj] at h
      by_cases w1 : nI j ≤ 9999
      · rw [if_pos w1] at h ⊢
        have h2 := stB_ok P hl j
        refine s_stepBehind hR a4 hl hj (s_cellAtC (by omega) ?_)
        rw [(a5 _ h2.2.1).2.1]
        exact h
      · rw [if_neg w1] at h ⊢; exact h
theorem c_end {r c : Nat} {k : Nat → Nat} (hR : RC r c) {count steps : Int32} {owners firsts ob ce en rg dn : Nat → Int32} (hL : LoR (LY r c k) count steps owners firsts ob ce en rg dn) {x w : Int32} {Q : Int32 → Prop} (h : Q (aEnd r c k x w)) : wX5_end count steps firsts en x w Q := by
  obtain ⟨P, hn, h36⟩ := LY_fact k hR
  obtain ⟨a1, a2, a3, a4, a5⟩ := hL
  subst a1
  unfold wX5_end
  unfold aEnd at h
  refine s_has h36 (fun hno => ?_) (fun l hs hx hl => ?_)
  · rw [hno] at h
    rw [if_pos rfl]
    exact h
  · rw [hs] at h
    subst hx
    rw [if_neg (by decide)]
    simp only [Option.elim_some] at h
    by_cases w0 : w < 0
    · rw [if_pos w0] at h ⊢; exact h
    · rw [if_neg w0] at h ⊢
      obtain ⟨j, hj, rfl⟩ := nI_of w0
      rw [nI_clamp hj] at h
      by_cases w1 : nI j ≤ 9999
      · rw [if_pos w1] at h ⊢
        have h2 := stB_ok P hl j
        refine s_stepBehind hR a4 hl hj (s_endAt (by omega) ?_)
        rw [(a5 _ h2.2.1).2.2.1]
        exact h
      · rw [if_neg w1] at h ⊢; exact h
noncomputable def aBetween (r c : Nat) (k : Nat → Nat) (x y : Int32) : Int32 := (lpI (LY r c k).2.1 x).elim (-1) (fun a => (lpI (LY r c k).2.1 y).elim (-1) (fun b => ctE r c k a b))
theorem c_between {r c : Nat} {k : Nat → Nat} (hR : RC r c) {count steps : Int32} {owners firsts ob ce en rg dn : Nat → Int32} (hL : LoR (LY r c k) count steps owners firsts ob ce en rg dn) {arcs ties : Int32} {passes abs overs unders tied : Nat → Int32} (hC : CrR r c k arcs ties passes abs overs unders tied) {x y : Int32} {Q : Int32 → Prop} (h : Q (aBetween r c k x y)) : wX5_between count ob overs unders x y Q := by
  obtain ⟨P, hn, h36⟩ := LY_fact k hR
  obtain ⟨a1, a2, a3, a4, a5⟩ := hL
  subst a1
  obtain ⟨c1, c2, c3, c4, c5, c6, c7⟩ := hC
  unfold wX5_between
  unfold aBetween at h
  refine s_has h36 (fun hno => ?_) (fun l hs hx hl => ?_)
  · rw [hno] at h
    rw [if_pos rfl]
    exact h
  · rw [hs] at h
    subst hx
    rw [if_neg (by decide)]
    simp only [Option.elim_some] at h
    refine s_has h36 (fun hno => ?_) (fun l2 hs2 hx2 hl2 => ?_)
    · rw [hno] at h
      rw [if_pos rfl]
      exact h
    · rw [hs2] at h
      subst hx2
      rw [if_neg (by decide)]
      exact s_countShared hR a5 c5 c6 (by omega) (by omega) h
noncomputable def aWhich (r c : Nat) (k : Nat → Nat) (x o : Int32) : Int32 := (plc r c x).elim (-1) (fun p => if crB r c k p = true then nI (lpD (LY r c k) p (if o = 0 then !ovD k p else ovD k p)) else -3)
theorem c_which {r c : Nat} {k : Nat → Nat} (hR : RC r c) (hk : ∀ p, k p ≤ 3) {down across inner : Int32} {pts kinds nums : Nat → Int32} (R : PlR r c k down across inner pts kinds nums) {count steps : Int32} {owners firsts ob ce en rg dn : Nat → Int32} (hL : LoR (LY r c k) count steps owners firsts ob ce en rg dn) {arcs ties : Int32} {passes abs overs unders tied : Nat → Int32} (hC : CrR r c k arcs ties passes abs overs unders tied) {x o : Int32} {Q : Int32 → Prop} (h : Q (aWhich r c k x o)) : wX5_which kinds nums ob overs unders x o Q := by
  obtain ⟨a1, a2, a3, a4, a5⟩ := hL
  obtain ⟨c1, c2, c3, c4, c5, c6, c7⟩ := hC
  unfold wX5_which
  unfold aWhich at h
  refine s_numOf hR R (fun hn => ?_) (fun p hp hi => ?_)
  · rw [hn] at h
    rw [if_neg (by decide)]
    exact h
  · rw [hp] at h
    have h60 := cnt_60 hR hi
    rw [if_pos (nI_pos' (by omega))]
    refine s_isCrP hR hk R hi ?_
    simp only [Option.elim_some] at h
    by_cases hc : crB r c k p = true
    · rw [if_pos hc] at h
      rw [hc, bI_t, if_neg (by decide)]
      by_cases ho : o = 0
      · rw [if_pos ho] at h ⊢
        exact s_loopUnder hR a5 c6 hc h
      · rw [if_neg ho] at h ⊢
        exact s_loopOver hR a5 c5 hc h
    · rw [if_neg hc] at h
      have hc2 : crB r c k p = false := by cases z : crB r c k p; rfl; exact absurd z hc
      rw [hc2, bI_f, if_pos rfl]
      exact h
noncomputable def aSign (r c : Nat) (k : Nat → Nat) (x : Int32) : Int32 := (plc r c x).elim (-1) (fun p => if crB r c k p = true then sg (sgB r c k p) else -3)
theorem c_sign {r c : Nat} {k : Nat → Nat} (hR : RC r c) (hk : ∀ p, k p ≤ 3) {down across inner : Int32} {pts kinds nums : Nat → Int32} (R : PlR r c k down across inner pts kinds nums) {count steps : Int32} {owners firsts ob ce en rg dn : Nat → Int32} (hL : LoR (LY r c k) count steps owners firsts ob ce en rg dn) {arcs ties : Int32} {passes abs overs unders tied : Nat → Int32} (hC : CrR r c k arcs ties passes abs overs unders tied) {x : Int32} {Q : Int32 → Prop} (h : Q (aSign r c k x)) : wX5_sign kinds nums rg dn overs unders x Q := by
  obtain ⟨a1, a2, a3, a4, a5⟩ := hL
  obtain ⟨c1, c2, c3, c4, c5, c6, c7⟩ := hC
  unfold wX5_sign
  unfold aSign at h
  refine s_numOf hR R (fun hn => ?_) (fun p hp hi => ?_)
  · rw [hn] at h
    rw [if_neg (by decide)]
    exact h
  · rw [hp] at h
    have h60 := cnt_60 hR hi
    rw [if_pos (nI_pos' (by omega))]
    refine s_isCrP hR hk R hi ?_
    simp only [Option.elim_some] at h
    by_cases hc : crB r c k p = true
    · rw [if_pos hc] at h
      rw [hc, bI_t, if_neg (by decide)]
      exact s_signAt hR a5 c5 c6 hc h
    · rw [if_neg hc] at h
      have hc2 : crB r c k p = false := by cases z : crB r c k p; rfl; exact absurd z hc
      rw [hc2, bI_f, if_pos rfl]
      exact h
theorem c_writhe {r c : Nat} {k : Nat → Nat} (hR : RC r c) {count steps : Int32} {owners firsts ob ce en rg dn : Nat → Int32} (hL : LoR (LY r c k) count steps owners firsts ob ce en rg dn) {arcs ties : Int32} {passes abs overs unders tied : Nat → Int32} (hC : CrR r c k arcs ties passes abs overs unders tied) {Q : Int32 → Prop} (h : Q (1000 + swE r c k)) : wX5_writhe rg dn overs unders Q := by
  unfold wX5_writhe
  exact s_sumSigns hR hL.2.2.2.2 hC.2.2.2.2.1 hC.2.2.2.2.2.1 h
noncomputable def aLinked (r c : Nat) (k : Nat → Nat) (x y : Int32) : Int32 := (lpI (LY r c k).2.1 x).elim (-1) (fun a => (lpI (LY r c k).2.1 y).elim (-1) (fun b => if x = y then -3 else 1000 + ssE r c k a b / 2))
theorem c_linked {r c : Nat} {k : Nat → Nat} (hR : RC r c) {count steps : Int32} {owners firsts ob ce en rg dn : Nat → Int32} (hL : LoR (LY r c k) count steps owners firsts ob ce en rg dn) {arcs ties : Int32} {passes abs overs unders tied : Nat → Int32} (hC : CrR r c k arcs ties passes abs overs unders tied) {x y : Int32} {Q : Int32 → Prop} (h : Q (aLinked r c k x y)) : wX5_linked count ob rg dn overs unders x y Q := by
  obtain ⟨P, hn, h36⟩ := LY_fact k hR
  obtain ⟨a1, a2, a3, a4, a5⟩ := hL
  subst a1
  obtain ⟨c1, c2, c3, c4, c5, c6, c7⟩ := hC
  unfold wX5_linked
  unfold aLinked at h
  refine s_has h36 (fun hno => ?_) (fun l hs hx hl => ?_)
  · rw [hno] at h
    rw [if_pos rfl]
    exact h
  · rw [hs] at h
    rw [if_neg (by decide)]
    simp only [Option.elim_some] at h
    refine s_has h36 (fun hno => ?_) (fun l2 hs2 hx2 hl2 => ?_)
    · rw [hno] at h
      rw [if_pos rfl]
      exact h
    · rw [hs2] at h
      simp only [Option.elim_some] at h
      rw [if_neg (by decide)]
      by_cases hxy : x = y
      · rw [if_pos hxy] at h ⊢; exact h
      · rw [if_neg hxy] at h ⊢
        subst hx; subst hx2
        exact s_sumShared hR a5 c5 c6 (by omega) (by omega) h
noncomputable def aOne (r c : Nat) (k : Nat → Nat) : Int32 := if nI (LY r c k).2.1 - nI (tiE r c k).1 = 1 then nI (tiE r c k).1 else -9
noncomputable def aOneAt (r c : Nat) (k : Nat → Nat) (x : Int32) : Int32 := if nI (LY r c k).2.1 - nI (tiE r c k).1 = 1 then (if x < 0 then -9 else if x < nI (tiE r c k).1 then nI (toldP ((tiE r c k).2.1 x.toNatClampNeg)) else -9) else -9
theorem ti_36 {r c : Nat} {k : Nat → Nat} (hR : RC r c) : (tiE r c k).1 ≤ 36 := by
  obtain ⟨h1, S, h2, h3⟩ := tiP_I (k := k) hR 169
  show (tiP r c k 169).1 ≤ 36
  omega
theorem c_one {r c : Nat} {k : Nat → Nat} {count steps : Int32} {owners firsts ob ce en rg dn : Nat → Int32} (hL : LoR (LY r c k) count steps owners firsts ob ce en rg dn) {arcs ties : Int32} {passes abs overs unders tied : Nat → Int32} (hC : CrR r c k arcs ties passes abs overs unders tied) {Q : Int32 → Prop} (h : Q (aOne r c k)) : wX5_one count ties Q := by
  obtain ⟨a1, -⟩ := hL
  obtain ⟨c1, c2, -⟩ := hC
  subst a1; subst c2
  unfold wX5_one wX5_parts
  exact h
theorem c_oneAt {r c : Nat} {k : Nat → Nat} (hR : RC r c) {down across inner : Int32} {pts kinds nums : Nat → Int32} (R : PlR r c k down across inner pts kinds nums) {count steps : Int32} {owners firsts ob ce en rg dn : Nat → Int32} (hL : LoR (LY r c k) count steps owners firsts ob ce en rg dn) {arcs ties : Int32} {passes abs overs unders tied : Nat → Int32} (hC : CrR r c k arcs ties passes abs overs unders tied) {x : Int32} {Q : Int32 → Prop} (h : Q (aOneAt r c k x)) : wX5_oneAt pts count ties tied x Q := by
  obtain ⟨a1, -⟩ := hL
  obtain ⟨c1, c2, c3, c4, c5, c6, c7⟩ := hC
  subst a1; subst c2
  have h36 := ti_36 (k := k) hR
  unfold wX5_oneAt wX5_parts
  unfold aOneAt at h
  dsimp only
  by_cases q : nI (LY r c k).2.1 - nI (tiE r c k).1 = 1
  · rw [if_pos q] at h ⊢
    by_cases q1 : x < 0
    · rw [if_pos q1] at h ⊢; exact h
    · rw [if_neg q1] at h ⊢
      obtain ⟨j, hj, rfl⟩ := nI_of q1
      rw [nI_clamp hj] at h
      by_cases q2 : nI j < nI (tiE r c k).1
      · rw [if_pos q2] at h ⊢
        have hj2 := (nI_ltI hj (by omega)).mp q2
        unfold wX1_tieAt
        refine s_at (by omega) ?_
        rw [atv_in (by omega) (by omega), c7 j hj2]
        exact s_pointP hR R (tiP_in 169 j hj2) h
      · rw [if_neg q2] at h ⊢; exact h
  · rw [if_neg q] at h ⊢; exact h
