/-! the component's answers that change something, or count -/
def rgI (a b : Nat) (x : Int32) : Option Nat := if x < 0 then none else if a ≤ x.toNatClampNeg ∧ x.toNatClampNeg ≤ b then some x.toNatClampNeg else none
theorem rgI_some {a b n : Nat} {x : Int32} (h : rgI a b x = some n) : x = nI n ∧ a ≤ n ∧ n ≤ b ∧ n < 2 ^ 31 := by
  unfold rgI at h
  by_cases h1 : x < 0
  · rw [if_pos h1] at h; cases h
  · rw [if_neg h1] at h
    obtain ⟨m, hm, rfl⟩ := nI_of h1
    rw [nI_clamp hm] at h
    by_cases h2 : a ≤ m ∧ m ≤ b
    · rw [if_pos h2] at h; cases h; exact ⟨rfl, h2.1, h2.2, hm⟩
    · rw [if_neg h2] at h; cases h
theorem rgI_nI {a b n : Nat} (hn : n < 2 ^ 31) : rgI a b (nI n) = if a ≤ n ∧ n ≤ b then some n else none := by
  unfold rgI
  rw [if_neg (nI_pos hn), nI_clamp hn]
theorem rgI_neg {a b : Nat} {x : Int32} (h : x < 0) : rgI a b x = none := if_pos h
theorem I_lt1 {x : Int32} (h : x < 1) : x < 0 ∨ x = nI 0 := by
  rcases I_cases x with q | ⟨n, hn, rfl⟩
  · exact Or.inl q
  · have := (nI_ltI (b := 1) hn (by omega)).mp h
    exact Or.inr (by rw [show n = 0 by omega])
theorem sq_rg (x : Int32) : sqI x = rgI 1 6 x := by
  unfold sqI
  rcases I_cases x with q | ⟨n, hn, rfl⟩
  · rw [l1, if_pos (I_neg_lt q 1 (by omega)), rgI_neg q]
  · rw [rgI_nI hn, l1, l6]
    by_cases h1 : n < 1
    · rw [if_pos (nI_lt h1 (by omega)), if_neg (by omega)]
    · rw [if_neg (nI_nlt (by omega) hn)]
      by_cases h2 : 6 < n
      · rw [if_pos (nI_lt h2 hn), if_neg (by omega)]
      · rw [if_neg (nI_nlt (by omega) (by omega)), if_pos ⟨by omega, by omega⟩, nI_clamp hn]
theorem c_write {tx : Nat → Nat} {ln : Nat} (hln : ln ≤ 72) {f : Nat → Int32} (hf : TxR tx ln f) {n : Int32} {v : Int64} {Q : Int32 → Int32 → (Nat → Int32) → Prop} (h1 : rgI 1 8 n = none → Q (-2) (nI ln) f) (h2 : ∀ m, rgI 1 8 n = some m → 72 < ln + m → Q (-4) (nI ln) f) (h3 : ∀ m f', rgI 1 8 n = some m → ln + m ≤ 72 → TxR (wrT m v tx ln) (ln + m) f' → Q (nI (ln + m)) (nI (ln + m)) f') : wX5_write (nI ln) f n v Q := by
  unfold wX5_write
  rcases I_cases n with q | ⟨m, hm, rfl⟩
  · rw [l1, if_pos (I_neg_lt q 1 (by omega))]
    exact h1 (rgI_neg q)
  · rw [rgI_nI hm] at h1 h2 h3
    by_cases q1 : m < 1
    · rw [l1, if_pos (nI_lt q1 (by omega))]
      exact h1 (if_neg (by omega))
    · rw [l1, if_neg (nI_nlt (by omega) hm), l8]
      by_cases q2 : m ≤ 8
      · rw [if_pos (nI_le q2 (by omega))]
        rw [if_pos ⟨by omega, q2⟩] at h2 h3
        unfold wX4_hasRoomFor
        dsimp only
        rw [nI_add, l72]
        by_cases q3 : 72 < ln + m
        · rw [if_pos (nI_lt q3 (by omega)), if_pos rfl]
          exact h2 m rfl q3
        · rw [if_neg (nI_nlt (by omega) (by omega)), if_neg (by decide)]
          exact s_append (by omega) q2 (by omega) hf (fun f' hf' => h3 m f' rfl (by omega) hf')
      · rw [if_neg (nI_ge (by omega) hm)]
        exact h1 (if_neg (by omega))
def mkI (r c h v : Int32) : Option (Nat × Nat × Nat × Nat) := (rgI 1 6 r).bind fun r => (rgI 1 6 c).bind fun c => (rgI 0 10 h).bind fun h => (rgI 0 10 v).bind fun v => if h + v ≤ 10 then some (r, c, h, v) else none
theorem c_make {d1 d2 d3 : Int32} {d4 d5 d6 : Nat → Int32} {count steps : Int32} {owners firsts ob ce en rg dn : Nat → Int32} (h0 : firsts 0 = 0) {arcs ties : Int32} {passes abs overs unders tied groups : Nat → Int32} {p1 p2 : Int32} {p3 : Int64} {p4 p5 : Int32} {Q : Int32 → Int32 → Int32 → Int32 → (Nat → Int32) → (Nat → Int32) → (Nat → Int32) → Int32 → Int32 → (Nat → Int32) → (Nat → Int32) → (Nat → Int32) → (Nat → Int32) → (Nat → Int32) → (Nat → Int32) → (Nat → Int32) → Int32 → Int32 → (Nat → Int32) → (Nat → Int32) → (Nat → Int32) → (Nat → Int32) → (Nat → Int32) → (Nat → Int32) → Prop}
    (hno : mkI p1 p2 p4 p5 = none → Q (-2) d1 d2 d3 d4 d5 d6 count steps owners firsts ob ce en rg dn arcs ties passes abs overs unders tied groups)
    (hyes : ∀ r c h v, mkI p1 p2 p4 p5 = some (r, c, h, v) → RC r c → ∀ d1' d2' d3' d4' d5' d6' count' steps' owners' firsts' ob' ce' en' rg' dn' arcs' ties' passes' abs' overs' unders' tied' groups', PlR r c (soE r c h v p3) d1' d2' d3' d4' d5' d6' → LoR (LY r c (soE r c h v p3)) count' steps' owners' firsts' ob' ce' en' rg' dn' → CrR r c (soE r c h v p3) arcs' ties' passes' abs' overs' unders' tied' → Q (nI (inN r c)) d1' d2' d3' d4' d5' d6' count' steps' owners' firsts' ob' ce' en' rg' dn' arcs' ties' passes' abs' overs' unders' tied' groups') : wX5_make d1 d2 d3 d4 d5 d6 count steps owners firsts ob ce en rg dn arcs ties passes abs overs unders tied groups p1 p2 p3 p4 p5 Q := by
  unfold wX5_make
  refine s_isSq (fun z => ?_) (fun r hr => ?_)
  · rw [if_pos rfl]
    refine hno ?_
    unfold mkI
    rw [← sq_rg p1, z]; rfl
  · rw [if_neg (by decide)]
    rw [sq_rg] at hr
    obtain ⟨rfl, r1, r2, -⟩ := rgI_some hr
    refine s_isSq (fun z => ?_) (fun c hc => ?_)
    · rw [if_pos rfl]
      refine hno ?_
      unfold mkI
      rw [hr, ← sq_rg p2, z]; rfl
    · rw [if_neg (by decide)]
      rw [sq_rg] at hc
      obtain ⟨rfl, c1, c2, -⟩ := rgI_some hc
      have hR : RC r c := ⟨r1, r2, c1, c2⟩
      have e : ∀ a b, mkI (nI r) (nI c) a b = (rgI 0 10 a).bind fun h => (rgI 0 10 b).bind fun v => if h + v ≤ 10 then some (r, c, h, v) else none := by
        intro a b
        unfold mkI
        rw [hr, hc]; rfl
      rw [e] at hno hyes
      rcases I_cases p4 with q4 | ⟨h, hh, rfl⟩
      · rw [if_pos q4]
        exact hno (by rw [rgI_neg q4]; rfl)
      · rw [if_neg (nI_pos hh), l10]
        rw [rgI_nI hh] at hno hyes
        by_cases y4 : 10 < h
        · rw [if_pos (nI_lt y4 hh)]
          exact hno (by rw [if_neg (by omega)]; rfl)
        · rw [if_neg (nI_nlt (by omega) (by omega))]
          rw [if_pos ⟨by omega, by omega⟩] at hno hyes
          rcases I_cases p5 with q5 | ⟨v, hv, rfl⟩
          · rw [if_pos q5]
            exact hno (by rw [rgI_neg q5]; rfl)
          · rw [if_neg (nI_pos hv)]
            rw [rgI_nI hv] at hno hyes
            by_cases y5 : 10 < v
            · rw [if_pos (nI_lt y5 hv)]
              exact hno (by rw [if_neg (by omega)]; rfl)
            · rw [if_neg (nI_nlt (by omega) (by omega))]
              rw [if_pos ⟨by omega, by omega⟩] at hno hyes
              simp only [Option.bind_some] at hno hyes
              rw [nI_add]
              by_cases y6 : h + v ≤ 10
              · rw [if_pos (nI_le y6 (by omega))]
                rw [if_pos y6] at hyes
                refine s_spread hR (fun pts' kinds' nums' hP => ?_)
                refine s_sow hR hP (by omega) (by omega) (fun kinds2 hP2 => ?_)
                exact s_redraw hR (soP_3 r c h v p3 169) hP2 h0 (fun _ _ _ _ _ _ _ _ _ _ _ _ _ _ _ _ _ hL hC => hyes r c h v rfl hR _ _ _ _ _ _ _ _ _ _ _ _ _ _ _ _ _ _ _ _ _ _ _ hP2 hL hC)
              · rw [if_neg (nI_ge (by omega) (by omega))]
                rw [if_neg y6] at hno
                exact hno rfl
def aSet (r c : Nat) (k : Nat → Nat) (x w : Int32) : Int32 := (plc r c x).elim (-1) (fun p => (rgI 0 3 w).elim (-2) (fun _ => nI (k p)))
def kSet (r c : Nat) (k : Nat → Nat) (x w : Int32) : Nat → Nat := (plc r c x).elim k (fun p => (rgI 0 3 w).elim k (fun v => kU k p v))
theorem kSet_3 {r c : Nat} {k : Nat → Nat} (hk : ∀ p, k p ≤ 3) (x w : Int32) : ∀ q, kSet r c k x w q ≤ 3 := by
  unfold kSet
  cases plc r c x with
  | none => exact hk
  | some p =>
    show ∀ q, (rgI 0 3 w).elim k (fun v => kU k p v) q ≤ 3
    cases hw : rgI 0 3 w with
    | none => exact hk
    | some v => exact kU_3 hk (rgI_some hw).2.2.1
theorem c_set {r c : Nat} {k : Nat → Nat} (hR : RC r c) (hk : ∀ p, k p ≤ 3) {d1 d2 d3 : Int32} {d4 d5 d6 : Nat → Int32} (R : PlR r c k d1 d2 d3 d4 d5 d6) {count steps : Int32} {owners firsts ob ce en rg dn : Nat → Int32} (hL : LoR (LY r c k) count steps owners firsts ob ce en rg dn) {arcs ties : Int32} {passes abs overs unders tied groups : Nat → Int32} (hC : CrR r c k arcs ties passes abs overs unders tied) {x w : Int32} {Q : Int32 → (Nat → Int32) → Int32 → Int32 → (Nat → Int32) → (Nat → Int32) → (Nat → Int32) → (Nat → Int32) → (Nat → Int32) → (Nat → Int32) → (Nat → Int32) → Int32 → Int32 → (Nat → Int32) → (Nat → Int32) → (Nat → Int32) → (Nat → Int32) → (Nat → Int32) → (Nat → Int32) → Prop}
    (h : ∀ d5' count' steps' owners' firsts' ob' ce' en' rg' dn' arcs' ties' passes' abs' overs' unders' tied' groups', PlR r c (kSet r c k x w) d1 d2 d3 d4 d5' d6 → LoR (LY r c (kSet r c k x w)) count' steps' owners' firsts' ob' ce' en' rg' dn' → CrR r c (kSet r c k x w) arcs' ties' passes' abs' overs' unders' tied' → Q (aSet r c k x w) d5' count' steps' owners' firsts' ob' ce' en' rg' dn' arcs' ties' passes' abs' overs' unders' tied' groups') : wX5_set d1 d2 d5 d6 count steps owners firsts ob ce en rg dn arcs ties passes abs overs unders tied groups x w Q := by
  have h0 := hL.f0 hR
  unfold wX5_set
  unfold aSet kSet at h
  refine s_numOf hR R (fun hn => ?_) (fun p hp hi => ?_)
  · rw [hn] at h
    rw [if_neg (by decide)]
    exact h _ _ _ _ _ _ _ _ _ _ _ _ _ _ _ _ _ _ R hL hC
  · rw [hp] at h
    simp only [Option.elim_some] at h
    have h60 := cnt_60 hR hi
    rw [if_pos (nI_pos' (by omega))]
    rcases I_cases w with q | ⟨v, hv, rfl⟩
    · rw [if_pos q]
      rw [rgI_neg q] at h
      exact h _ _ _ _ _ _ _ _ _ _ _ _ _ _ _ _ _ _ R hL hC
    · rw [if_neg (nI_pos hv), l3]
      rw [rgI_nI hv] at h
      by_cases q : v ≤ 3
      · rw [if_pos (nI_le q (by omega))]
        rw [if_pos ⟨by omega, q⟩] at h
        simp only [Option.elim_some] at h
        refine s_kindP hR R hi (s_put hR R hi (fun kinds' hP => ?_))
        exact s_redraw hR (kU_3 hk q) hP h0 (fun _ _ _ _ _ _ _ _ _ _ _ _ _ _ _ _ _ hL2 hC2 => h _ _ _ _ _ _ _ _ _ _ _ _ _ _ _ _ _ _ hP hL2 hC2)
      · rw [if_neg (nI_ge (by omega) hv)]
        rw [if_neg (by omega)] at h
        exact h _ _ _ _ _ _ _ _ _ _ _ _ _ _ _ _ _ _ R hL hC
theorem s_loopsBy {r c : Nat} {k : Nat → Nat} (hR : RC r c) (hk : ∀ p, k p ≤ 3) {d1 d2 d3 : Int32} {d4 d5 d6 : Nat → Int32} (R : PlR r c k d1 d2 d3 d4 d5 d6) {r1 r2 r3 : Int32} {r4 r5 r6 : Nat → Int32} {count steps : Int32} {owners firsts ob ce en rg dn : Nat → Int32} (h0 : firsts 0 = 0) {p v : Nat} (hi : inn r c p = true) (hv : v ≤ 3) {Q : Int32 → Int32 → Int32 → Int32 → (Nat → Int32) → (Nat → Int32) → (Nat → Int32) → Int32 → Int32 → (Nat → Int32) → (Nat → Int32) → (Nat → Int32) → (Nat → Int32) → (Nat → Int32) → (Nat → Int32) → (Nat → Int32) → Prop}
    (h : ∀ r1' r2' r3' r4' r5' r6' count' steps' owners' firsts' ob' ce' en' rg' dn', firsts' 0 = 0 → Q (nI (LY r c (kU k p v)).2.1) r1' r2' r3' r4' r5' r6' count' steps' owners' firsts' ob' ce' en' rg' dn') : wX5_countLoopsBy d1 d2 d3 d4 d5 d6 r1 r2 r3 r4 r5 r6 count steps owners firsts ob ce en rg dn (nI (cnt r c p)) (nI v) Q := by
  unfold wX5_countLoopsBy wX3_become
  refine s_put hR (R.cpy hR r4 r5 r6) hi (fun kinds' hP => ?_)
  refine s_follow hR (kU_3 hk hv) hP h0 (fun co st _ _ _ _ _ _ _ hL => ?_)
  have hf := hL.f0 hR
  have e : co = nI (LY r c (kU k p v)).2.1 := hL.1
  subst e
  exact h _ _ _ _ _ _ _ _ _ _ _ _ _ _ _ hf
def aBy (r c : Nat) (k : Nat → Nat) (x w : Int32) : Int32 := (plc r c x).elim (-1) (fun p => (rgI 0 2 w).elim (-2) (fun v => nI (LY r c (kU k p v)).2.1))
theorem c_by {r c : Nat} {k : Nat → Nat} (hR : RC r c) (hk : ∀ p, k p ≤ 3) {d1 d2 d3 : Int32} {d4 d5 d6 : Nat → Int32} (R : PlR r c k d1 d2 d3 d4 d5 d6) {r1 r2 r3 : Int32} {r4 r5 r6 : Nat → Int32} {count steps : Int32} {owners firsts ob ce en rg dn : Nat → Int32} (h0 : firsts 0 = 0) {x w : Int32} {Q : Int32 → Int32 → Int32 → Int32 → (Nat → Int32) → (Nat → Int32) → (Nat → Int32) → Int32 → Int32 → (Nat → Int32) → (Nat → Int32) → (Nat → Int32) → (Nat → Int32) → (Nat → Int32) → (Nat → Int32) → (Nat → Int32) → Prop}
    (h : ∀ r1' r2' r3' r4' r5' r6' count' steps' owners' firsts' ob' ce' en' rg' dn', firsts' 0 = 0 → Q (aBy r c k x w) r1' r2' r3' r4' r5' r6' count' steps' owners' firsts' ob' ce' en' rg' dn') : wX5_by d1 d2 d3 d4 d5 d6 r1 r2 r3 r4 r5 r6 count steps owners firsts ob ce en rg dn x w Q := by
  unfold wX5_by
  unfold aBy at h
  refine s_numOf hR R (fun hn => ?_) (fun p hp hi => ?_)
  · rw [hn] at h
    rw [if_neg (by decide)]
    exact h _ _ _ _ _ _ _ _ _ _ _ _ _ _ _ h0
  · rw [hp] at h
    simp only [Option.elim_some] at h
    have h60 := cnt_60 hR hi
    rw [if_pos (nI_pos' (by omega))]
    rcases I_cases w with q | ⟨v, hv, rfl⟩
    · rw [if_pos q]
      rw [rgI_neg q] at h
      exact h _ _ _ _ _ _ _ _ _ _ _ _ _ _ _ h0
    · rw [if_neg (nI_pos hv), l2]
      rw [rgI_nI hv] at h
      by_cases q : v ≤ 2
      · rw [if_pos (nI_le q (by omega))]
        rw [if_pos ⟨by omega, q⟩] at h
        exact s_loopsBy hR hk R h0 hi (by omega) h
      · rw [if_neg (nI_ge (by omega) hv)]
        rw [if_neg (by omega)] at h
        exact h _ _ _ _ _ _ _ _ _ _ _ _ _ _ _ h0
def moG (r c : Nat) (k : Nat → Nat) (v : Nat) (p : Nat) (s : Int32 × Nat) : Int32 × Nat := if crB r c k p = true then (if s.2 < (LY r c (kU k p v)).2.1 then (nI (toldP p), (LY r c (kU k p v)).2.1) else s) else s
def moE (r c : Nat) (k : Nat → Nat) (v : Nat) : Int32 := (FP r c (moG r c k v) (-9, 0) 169).1
def aMost (r c : Nat) (k : Nat → Nat) (w : Int32) : Int32 := (rgI 1 2 w).elim (-2) (fun v => moE r c k v)
theorem mo_36 {r c : Nat} {k : Nat → Nat} (hR : RC r c) {v : Nat} : ∀ p, (FP r c (moG r c k v) ((-9, 0) : Int32 × Nat) p).2 ≤ 36 := by
  intro p
  induction p with
  | zero => exact Nat.zero_le _
  | succ p ih =>
    cases hq : inn r c p with
    | false => rw [FP_out hq]; exact ih
    | true =>
      rw [FP_in hq]
      unfold moG
      split
      · split
        · exact (LY_fact (r := r) (c := c) (kU k p v) hR).2.2
        · exact ih
      · exact ih
set_option maxHeartbeats 1000000 in
theorem s_most {r c : Nat} {k : Nat → Nat} (hR : RC r c) (hk : ∀ p, k p ≤ 3) {d1 d2 d3 : Int32} {d4 d5 d6 : Nat → Int32} (R : PlR r c k d1 d2 d3 d4 d5 d6) {r1 r2 r3 : Int32} {r4 r5 r6 : Nat → Int32} {count steps : Int32} {owners firsts ob ce en rg dn : Nat → Int32} (h0 : firsts 0 = 0) {v : Nat} (hv : v ≤ 3) {Q : Int32 → Int32 → Int32 → Int32 → (Nat → Int32) → (Nat → Int32) → (Nat → Int32) → Int32 → Int32 → (Nat → Int32) → (Nat → Int32) → (Nat → Int32) → (Nat → Int32) → (Nat → Int32) → (Nat → Int32) → (Nat → Int32) → Prop}
    (h : ∀ r1' r2' r3' r4' r5' r6' count' steps' owners' firsts' ob' ce' en' rg' dn', firsts' 0 = 0 → Q (moE r c k v) r1' r2' r3' r4' r5' r6' count' steps' owners' firsts' ob' ce' en' rg' dn') : wX5_most_J13 d1 d2 d3 d4 d5 d6 r1 r2 r3 r4 r5 r6 count steps owners firsts ob ce en rg dn (nI v) Q := by
  have h60 := inN_le hR
  have hd3 : d3 = nI (inN r c) := R.2.2.1
  unfold wX5_most_J13 lX5_most_21
  refine lp_num (r := r) (c := c) (moG r c k v) ((-9, 0) : Int32 × Nat) (fun i s a => a.1 = s.1 ∧ a.2.1 = nI s.2 ∧ a.2.2.1 = nI i ∧ a.2.2.2.2.2.2.2.2.2.2.2.2.1 0 = 0) (inN r c) (Nat.le_refl _) ?_ ?_ ?_ FU _ ⟨rfl, rfl, rfl, h0⟩ (FU_of (by omega))
  · rintro RR p s ⟨x1, x2, x3, q1, q2, q3, q4, q5, q6, m1, m2, m3, m4, m5, m6, m7, m8, m9⟩ hlt hp hip hb ⟨e1, e2, e3, e4⟩ hRR
    have hs36 : s.2 ≤ 36 := by rw [hb]; exact mo_36 hR p
    dsimp only at e1 e2 e3 e4 ⊢
    subst e1; subst e2; subst e3
    unfold bX5_most_21
    rw [hd3, if_neg (nI_ge hlt (by omega)), nI_1]
    refine s_isCrP hR hk R hip ?_
    unfold moG at hRR
    by_cases hc : crB r c k p = true
    · rw [if_pos hc] at hRR
      rw [hc, bI_t, if_neg (by decide), ← hd3]
      refine s_loopsBy hR hk R e4 hip hv (fun r1' r2' r3' r4' r5' r6' co' st' ow' fi' ob' ce' en' rg' dn' hf => ?_)
      have hn36 := (LY_fact (r := r) (c := c) (kU k p v) hR).2.2
      by_cases hm : s.2 < (LY r c (kU k p v)).2.1
      · rw [if_pos hm] at hRR
        rw [if_neg (nI_ge hm (by omega))]
        exact s_pointP hR R hip (hRR _ ⟨rfl, rfl, rfl, hf⟩)
      · rw [if_neg hm] at hRR
        rw [if_pos (nI_le (by omega) (by omega))]
        exact hRR _ ⟨rfl, rfl, rfl, hf⟩
    · rw [if_neg hc] at hRR
      have hc2 : crB r c k p = false := by cases z : crB r c k p; rfl; exact absurd z hc
      rw [hc2, bI_f, if_pos rfl]
      exact hRR _ ⟨rfl, rfl, rfl, e4⟩
  · intro RR i b a h1 h2
    omega
  · rintro RR ⟨x1, x2, x3, q1, q2, q3, q4, q5, q6, m1, m2, m3, m4, m5, m6, m7, m8, m9⟩ ⟨e1, e2, e3, e4⟩
    dsimp only at e1 e2 e3 e4 ⊢
    subst e1; subst e3
    unfold bX5_most_21
    rw [hd3, if_pos (nI_le (by omega) (by omega))]
    exact h _ _ _ _ _ _ _ _ _ _ _ _ _ _ _ e4
theorem c_most {r c : Nat} {k : Nat → Nat} (hR : RC r c) (hk : ∀ p, k p ≤ 3) {d1 d2 d3 : Int32} {d4 d5 d6 : Nat → Int32} (R : PlR r c k d1 d2 d3 d4 d5 d6) {r1 r2 r3 : Int32} {r4 r5 r6 : Nat → Int32} {count steps : Int32} {owners firsts ob ce en rg dn : Nat → Int32} (h0 : firsts 0 = 0) {w : Int32} {Q : Int32 → Int32 → Int32 → Int32 → (Nat → Int32) → (Nat → Int32) → (Nat → Int32) → Int32 → Int32 → (Nat → Int32) → (Nat → Int32) → (Nat → Int32) → (Nat → Int32) → (Nat → Int32) → (Nat → Int32) → (Nat → Int32) → Prop}
    (h : ∀ r1' r2' r3' r4' r5' r6' count' steps' owners' firsts' ob' ce' en' rg' dn', firsts' 0 = 0 → Q (aMost r c k w) r1' r2' r3' r4' r5' r6' count' steps' owners' firsts' ob' ce' en' rg' dn') : wX5_most d1 d2 d3 d4 d5 d6 r1 r2 r3 r4 r5 r6 count steps owners firsts ob ce en rg dn w Q := by
  unfold wX5_most
  unfold aMost at h
  by_cases q1 : w = 1
  · rw [if_pos q1]
    subst q1
    rw [show rgI 1 2 1 = some 1 from rgI_nI (n := 1) (by omega)] at h
    exact s_most (v := 1) hR hk R h0 (by omega) h
  · rw [if_neg q1]
    by_cases q2 : w = 2
    · rw [if_pos q2]
      subst q2
      rw [show rgI 1 2 2 = some 2 from rgI_nI (n := 2) (by omega)] at h
      exact s_most (v := 2) hR hk R h0 (by omega) h
    · rw [if_neg q2]
      have e : rgI 1 2 w = none := by
        rcases I_cases w with q | ⟨n, hn, rfl⟩
        · exact rgI_neg q
        · rw [rgI_nI hn, if_neg]
          intro z
          rcases (show n = 1 ∨ n = 2 by omega) with y | y
          · exact q1 (by rw [y]; rfl)
          · exact q2 (by rw [y]; rfl)
      rw [e] at h
      exact h _ _ _ _ _ _ _ _ _ _ _ _ _ _ _ h0
/-- how many of a kind -/
def kcE (r c : Nat) (k : Nat → Nat) (v : Nat) : Int32 := FP r c (fun p s => if k p = v then s + 1 else s) (0 : Int32) 169
theorem s_countKind {r c : Nat} {k : Nat → Nat} (hR : RC r c) (hk : ∀ p, k p ≤ 3) {d1 d2 d3 : Int32} {d4 d5 d6 : Nat → Int32} (R : PlR r c k d1 d2 d3 d4 d5 d6) {v : Nat} (hv : v ≤ 3) {Q : Int32 → Prop} (h : Q (kcE r c k v)) : wX3_countKind d3 d5 (nI v) Q := by
  have h60 := inN_le hR
  have hd3 : d3 = nI (inN r c) := R.2.2.1
  unfold wX3_countKind lX3_countKind_4
  refine lp_num (r := r) (c := c) (fun p s => if k p = v then s + 1 else s) (0 : Int32) (fun i s a => a.1 = s ∧ a.2 = nI i) (inN r c) (Nat.le_refl _) ?_ ?_ ?_ FU _ ⟨rfl, rfl⟩ (FU_of (by omega))
  · rintro RR p s ⟨x1, x2⟩ hlt hp hip hb ⟨e1, e2⟩ hRR
    dsimp only at e1 e2 ⊢
    subst e1; subst e2
    unfold bX3_countKind_4
    rw [hd3, if_neg (nI_ge hlt (by omega)), nI_1]
    refine s_kindP hR R hip (hRR _ ⟨?_, rfl⟩)
    have := hk p
    by_cases z : k p = v
    · rw [if_pos (by rw [z]), if_pos z]
    · rw [if_neg (fun e => z (nI_inj (by omega) (by omega) e)), if_neg z]
  · intro RR i b a h1 h2
    omega
  · rintro RR ⟨x1, x2⟩ ⟨e1, e2⟩
    dsimp only at e1 e2 ⊢
    subst e1; subst e2
    unfold bX3_countKind_4
    rw [hd3, if_pos (nI_le (by omega) (by omega))]
    exact h
noncomputable def aAbout (r c : Nat) (k : Nat → Nat) (ln : Nat) (w : Int32) : Int32 := if w = 0 then nI r else if w = 1 then nI c else if w = 2 then nI (4 * r * c) else if w = 3 then nI (inN r c) else if w = 4 then kcE r c k 0 + kcE r c k 3 else if w = 5 then kcE r c k 1 else if w = 6 then kcE r c k 2 else if w = 7 then kcE r c k 3 else if w = 8 then nI (LY r c k).2.1 else if w = 9 then nI (LY r c k).2.1 - nI (tiE r c k).1 else if w = 10 then kcE r c k 0 + kcE r c k 3 + 1 + (nI (LY r c k).2.1 - nI (tiE r c k).1) else if w = 11 then nI (arN r c k (LY r c k) (LY r c k).2.1) else if w = 12 then nI ln else -2
theorem c_about {r c : Nat} {k : Nat → Nat} (hR : RC r c) (hk : ∀ p, k p ≤ 3) {d1 d2 d3 : Int32} {d4 d5 d6 : Nat → Int32} (R : PlR r c k d1 d2 d3 d4 d5 d6) {count steps : Int32} {owners firsts ob ce en rg dn : Nat → Int32} (hL : LoR (LY r c k) count steps owners firsts ob ce en rg dn) {arcs ties : Int32} {passes abs overs unders tied : Nat → Int32} (hC : CrR r c k arcs ties passes abs overs unders tied) {ln : Nat} {w : Int32} {Q : Int32 → Prop} (h : Q (aAbout r c k ln w)) : wX5_about (nI ln) d1 d2 d3 d5 count arcs ties w Q := by
  have a1 : count = nI (LY r c k).2.1 := hL.1
  have a2 : arcs = nI (arN r c k (LY r c k) (LY r c k).2.1) := hC.1
  have a3 : ties = nI (tiE r c k).1 := hC.2.1
  have b1 : d1 = nI r := R.1
  have b2 : d2 = nI c := R.2.1
  have b3 : d3 = nI (inN r c) := R.2.2.1
  have cr : ∀ {P : Int32 → Prop}, P (kcE r c k 0 + kcE r c k 3) → wX3_countCrossings d3 d5 P := by
    intro P hP
    unfold wX3_countCrossings
    exact s_countKind (v := 0) hR hk R (by omega) (s_countKind (v := 3) hR hk R (by omega) hP)
  unfold wX5_about
  unfold aAbout at h
  by_cases w0 : w = 0
  · rw [if_pos w0] at h ⊢; rw [b1]; exact h
  rw [if_neg w0] at h ⊢
  by_cases w1 : w = 1
  · rw [if_pos w1] at h ⊢; rw [b2]; exact h
  rw [if_neg w1] at h ⊢
  by_cases w2 : w = 2
  · rw [if_pos w2] at h ⊢; rw [b1, b2, l4, pk_mul, pk_mul]; exact h
  rw [if_neg w2] at h ⊢
  by_cases w3 : w = 3
  · rw [if_pos w3] at h ⊢; rw [b3]; exact h
  rw [if_neg w3] at h ⊢
  by_cases w4 : w = 4
  · rw [if_pos w4] at h ⊢; exact cr h
  rw [if_neg w4] at h ⊢
  by_cases w5 : w = 5
  · rw [if_pos w5] at h ⊢; exact s_countKind (v := 1) hR hk R (by omega) h
  rw [if_neg w5] at h ⊢
  by_cases w6 : w = 6
  · rw [if_pos w6] at h ⊢; exact s_countKind (v := 2) hR hk R (by omega) h
  rw [if_neg w6] at h ⊢
  by_cases w7 : w = 7
  · rw [if_pos w7] at h ⊢; exact s_countKind (v := 3) hR hk R (by omega) h
  rw [if_neg w7] at h ⊢
  by_cases w8 : w = 8
  · rw [if_pos w8] at h ⊢; rw [a1]; exact h
  rw [if_neg w8] at h ⊢
  by_cases w9 : w = 9
  · rw [if_pos w9] at h ⊢
    unfold wX5_parts
    rw [a1, a3]; exact h
  rw [if_neg w9] at h ⊢
  by_cases w10 : w = 10
  · rw [if_pos w10] at h ⊢
    refine cr ?_
    unfold wX5_parts
    rw [a1, a3]; exact h
  rw [if_neg w10] at h ⊢
  by_cases w11 : w = 11
  · rw [if_pos w11] at h ⊢; rw [a2]; exact h
  rw [if_neg w11] at h ⊢
  by_cases w12 : w = 12
  · rw [if_pos w12] at h ⊢; exact h
  rw [if_neg w12] at h ⊢
  exact h
