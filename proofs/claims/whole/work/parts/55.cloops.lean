/-! what the component answers of loops -/
def lpI (L : Nat) (x : Int32) : Option Nat := if x < 0 then none else if x.toNatClampNeg < L then some x.toNatClampNeg else none
theorem lpI_some {L l : Nat} {x : Int32} (h : lpI L x = some l) : x = nI l ∧ l < L ∧ l < 2 ^ 31 := by
  unfold lpI at h
  by_cases h1 : x < 0
  · rw [if_pos h1] at h; cases h
  · rw [if_neg h1] at h
    obtain ⟨n, hn, rfl⟩ := nI_of h1
    rw [nI_clamp hn] at h
    by_cases h2 : n < L
    · rw [if_pos h2] at h; cases h; exact ⟨rfl, h2, hn⟩
    · rw [if_neg h2] at h; cases h
theorem s_has {L : Nat} (hL : L ≤ 36) {x : Int32} {Q : Int32 → Prop} (h1 : lpI L x = none → Q 0) (h2 : ∀ l, lpI L x = some l → x = nI l → l < L → Q 1) : wX2_has (nI L) x Q := by
  unfold wX2_has
  unfold lpI at h1 h2
  by_cases q : x < 0
  · rw [if_pos q] at h1 ⊢; exact h1 rfl
  · rw [if_neg q] at h1 h2 ⊢
    obtain ⟨n, hn, rfl⟩ := nI_of q
    rw [nI_clamp hn] at h1 h2
    by_cases q2 : n < L
    · rw [if_pos q2] at h2
      rw [if_neg (nI_ge q2 (by omega))]
      exact h2 _ rfl rfl q2
    · rw [if_neg q2] at h1
      rw [if_pos (nI_le (by omega) hn)]
      exact h1 rfl
def lenL (m : MS) (l : Nat) : Nat := m.2.2.2.2 (l + 1) - m.2.2.2.2 l
def stB (m : MS) (l j : Nat) : Nat := m.2.2.2.2 l + j % lenL m l
theorem stB_ok {r c : Nat} {k : Nat → Nat} {m : MS} (P : PM r c k m.1 m) {l : Nat} (hl : l < m.2.1) (j : Nat) : 4 ≤ lenL m l ∧ stB m l j < m.1 ∧ m.2.2.2.2 l ≤ stB m l j ∧ stB m l j < m.2.2.2.2 (l + 1) := by
  obtain ⟨b1, b2⟩ := bg_lim P hl
  have h1 : 4 ≤ lenL m l := by unfold lenL; omega
  have h2 : j % lenL m l < lenL m l := Nat.mod_lt _ (by omega)
  unfold stB
  unfold lenL at h1 h2 ⊢
  omega
theorem s_lengthOf {r c : Nat} {k : Nat → Nat} (hR : RC r c) {steps : Int32} {firsts : Nat → Int32} (hF : ∀ l, l ≤ (LY r c k).2.1 → firsts l = nI ((LY r c k).2.2.2.2 l)) {l : Nat} (hl : l < (LY r c k).2.1) {Q : Int32 → Prop} (h : Q (nI (lenL (LY r c k) l))) : wX2_lengthOf steps firsts (nI l) Q := by
  obtain ⟨P, hn, h36⟩ := LY_fact k hR
  obtain ⟨b1, b2⟩ := bg_lim P hl
  unfold wX2_lengthOf
  rw [nI_1]
  refine s_first hF h36 (by omega) (s_first hF h36 (by omega) ?_)
  rw [pk_sub (by omega)]
  exact h
theorem s_stepBehind {r c : Nat} {k : Nat → Nat} (hR : RC r c) {steps : Int32} {firsts : Nat → Int32} (hF : ∀ l, l ≤ (LY r c k).2.1 → firsts l = nI ((LY r c k).2.2.2.2 l)) {l : Nat} (hl : l < (LY r c k).2.1) {j : Nat} (hj : j < 2 ^ 31) {Q : Int32 → Prop} (h : Q (nI (stB (LY r c k) l j))) : wX2_stepBehind steps firsts (nI l) (nI j) Q := by
  obtain ⟨P, hn, h36⟩ := LY_fact k hR
  obtain ⟨b1, b2⟩ := bg_lim P hl
  obtain ⟨c1, c2, c3, c4⟩ := stB_ok P hl j
  have c5 : lenL (LY r c k) l ≤ 144 := by unfold lenL; omega
  unfold wX2_stepBehind
  refine s_lengthOf hR hF hl ?_
  rw [l1, if_pos (nI_le (by omega) (by omega))]
  refine s_first hF h36 (by omega) ⟨fun e => ?_, ?_⟩
  · have := nI_inj (b := 0) (by omega) (by omega) e
    omega
  · rw [jr_nI hj (by omega) (by omega), nI_add]
    exact h
theorem s_stepAfter {r c : Nat} {k : Nat → Nat} (hR : RC r c) {steps : Int32} {firsts ob ce en rg dn : Nat → Int32} (hF : ∀ l, l ≤ (LY r c k).2.1 → firsts l = nI ((LY r c k).2.2.2.2 l)) (hS : StR (LY r c k) ob ce en rg dn) {t : Nat} (ht : t < (LY r c k).1) {Q : Int32 → Prop} (h : Q (nI (aft (LY r c k) t))) : wX2_stepAfter steps firsts ob (nI t) Q := by
  obtain ⟨P, hn, h36⟩ := LY_fact k hR
  obtain ⟨l, h1, h2, h3, h4⟩ := bg_of P ht
  obtain ⟨b1, b2⟩ := bg_lim P h1
  have c1 := (hS t ht).1
  rw [h2] at c1
  have e : aft (LY r c k) t = if t + 1 < (LY r c k).2.2.2.2 (l + 1) then t + 1 else (LY r c k).2.2.2.2 l := by
    unfold aft; rw [h2]; rfl
  rw [e] at h
  unfold wX2_stepAfter
  refine s_ownerAt (by omega) ?_
  rw [c1, show l + 1 - 1 = l by omega, nI_1, nI_1]
  refine s_first hF h36 (by omega) ?_
  by_cases q : t + 1 < (LY r c k).2.2.2.2 (l + 1)
  · rw [if_pos q] at h
    rw [if_neg (nI_ge q (by omega))]
    exact h
  · rw [if_neg q] at h
    rw [if_pos (nI_le (by omega) (by omega))]
    exact s_first hF h36 (by omega) h
/-- the cell told by an int -/
def clI (r c : Nat) (x : Int32) : Option Nat := if x < 0 then none else if x.toNatClampNeg / 100 < 2 * r ∧ x.toNatClampNeg % 100 < 2 * c then some (12 * (x.toNatClampNeg / 100) + x.toNatClampNeg % 100) else none
theorem own_out {r c : Nat} {k : Nat → Nat} (hR : RC r c) {row col : Nat} (h : ¬ (row < 2 * r ∧ col < 2 * c)) (hc : col < 12) : (LY r c k).2.2.1 (12 * row + col) = 0 := by
  obtain ⟨r1, r2, r3, r4⟩ := id hR
  obtain ⟨P, hn, h36⟩ := LY_fact k hR
  rcases Nat.eq_zero_or_pos ((LY r c k).2.2.1 (12 * row + col)) with q | q
  · exact q
  · exfalso
    obtain ⟨t, ht, e⟩ := P.2.2.2.1 (12 * row + col) (by omega)
    have h1 := P.2.1 t ht
    have h2 := h1.1
    have h3 := h1.2
    unfold ceN at e
    have : ((LY r c k).2.2.2.1 t).1 = row := by omega
    have : ((LY r c k).2.2.2.1 t).2.1 = col := by omega
    exact h ⟨by omega, by omega⟩
def aLoop (r c : Nat) (k : Nat → Nat) (x : Int32) : Int32 := (clI r c x).elim (-1) (fun i => nI ((LY r c k).2.2.1 i - 1))
theorem c_loop {r c : Nat} {k : Nat → Nat} (hR : RC r c) {owners : Nat → Int32} (hO : OwR (LY r c k) owners) {x : Int32} {Q : Int32 → Prop} (h : Q (aLoop r c k x)) : wX5_loop owners x Q := by
  obtain ⟨r1, r2, r3, r4⟩ := id hR
  obtain ⟨P, hn, h36⟩ := LY_fact k hR
  have hall := (LY_ok (r := r) (c := c) k r2 r4).2
  unfold wX5_loop wX2_ownerOf
  unfold aLoop clI at h
  by_cases q : x < 0
  · rw [if_pos q] at h ⊢
    rw [if_pos rfl]
    show Q (if (0 : Int32) ≤ -9 then -9 else -1)
    rw [if_neg (by decide)]
    exact h
  · rw [if_neg q] at h ⊢
    obtain ⟨n, hn2, rfl⟩ := nI_of q
    rw [nI_clamp hn2] at h
    rw [l100, pk_div hn2 (by omega) (by omega), jr_nI hn2 (by omega) (by omega), l12]
    by_cases q1 : n / 100 < 12
    · rw [if_neg (nI_ge q1 (by omega))]
      by_cases q2 : n % 100 < 12
      · rw [if_neg (nI_ge q2 (by omega)), if_neg (by decide), pk_mul, nI_add]
        refine ⟨vp_in_nI (by omega) (by omega), ?_⟩
        rw [nI_clamp (by omega), show n / 100 * 12 + n % 100 = 12 * (n / 100) + n % 100 by omega, hO _ (by omega)]
        by_cases q3 : n / 100 < 2 * r ∧ n % 100 < 2 * c
        · rw [if_pos q3] at h
          have h1 := hall _ _ q3.1 q3.2
          have h2 := (PM_own P).1 (12 * (n / 100) + n % 100)
          rw [if_neg h1, if_pos (nI_pos' (by omega))]
          exact h
        · rw [if_neg q3] at h
          rw [own_out hR q3 q2, if_pos rfl, if_neg (by decide)]
          exact h
      · rw [if_neg (by omega)] at h
        rw [if_pos (nI_le (by omega) (by omega)), if_pos rfl]
        show Q (if (0 : Int32) ≤ -9 then -9 else -1)
        rw [if_neg (by decide)]
        exact h
    · rw [if_neg (by omega)] at h
      rw [if_pos (nI_le (by omega) (by omega)), if_pos rfl]
      show Q (if (0 : Int32) ≤ -9 then -9 else -1)
      rw [if_neg (by decide)]
      exact h
/-- where a loop doesn't alternate: alike so far, the first pass, the last -/
abbrev AS : Type := Nat × Nat × Nat
def alG (v : Nat) (s : AS) : AS := if v = 0 then s else ((if v = s.2.2 then s.1 + 1 else s.1), (if s.2.1 = 0 then v else s.2.1), v)
def alP (r c : Nat) (k : Nat → Nat) (m : MS) (l : Nat) : Nat → AS
  | 0 => (0, 0, 0)
  | j + 1 => alG (psT r c k m (m.2.2.2.2 l + j)) (alP r c k m l j)
def alE (r c : Nat) (k : Nat → Nat) (m : MS) (l : Nat) : AS := alP r c k m l (lenL m l)
def unE (r c : Nat) (k : Nat → Nat) (m : MS) (l : Nat) : Nat := (alE r c k m l).1 + (if (alE r c k m l).2.2 ≠ 0 ∧ (alE r c k m l).2.1 = (alE r c k m l).2.2 then 1 else 0)
theorem alP_ok (r c : Nat) (k : Nat → Nat) (m : MS) (l : Nat) : ∀ j, (alP r c k m l j).1 ≤ j ∧ ((alP r c k m l j).2.1 = 0 ↔ (alP r c k m l j).2.2 = 0) ∧ (alP r c k m l j).2.1 ≤ 2 ∧ (alP r c k m l j).2.2 ≤ 2 ∧ ((alP r c k m l j).2.2 = 0 → (alP r c k m l j).1 = 0) := by
  intro j
  induction j with
  | zero => exact ⟨Nat.le_refl _, Iff.rfl, Nat.zero_le _, Nat.zero_le _, fun _ => rfl⟩
  | succ j ih =>
    obtain ⟨h1, h2, h3, h4, h5⟩ := ih
    have h6 := psT_2 r c k m (m.2.2.2.2 l + j)
    show (alG (psT r c k m (m.2.2.2.2 l + j)) (alP r c k m l j)).1 ≤ j + 1 ∧ ((alG (psT r c k m (m.2.2.2.2 l + j)) (alP r c k m l j)).2.1 = 0 ↔ (alG (psT r c k m (m.2.2.2.2 l + j)) (alP r c k m l j)).2.2 = 0) ∧ (alG (psT r c k m (m.2.2.2.2 l + j)) (alP r c k m l j)).2.1 ≤ 2 ∧ (alG (psT r c k m (m.2.2.2.2 l + j)) (alP r c k m l j)).2.2 ≤ 2 ∧ ((alG (psT r c k m (m.2.2.2.2 l + j)) (alP r c k m l j)).2.2 = 0 → (alG (psT r c k m (m.2.2.2.2 l + j)) (alP r c k m l j)).1 = 0)
    generalize psT r c k m (m.2.2.2.2 l + j) = v at h6 ⊢
    generalize alP r c k m l j = s at h1 h2 h3 h4 h5 ⊢
    unfold alG
    by_cases q : v = 0
    · rw [if_pos q]; exact ⟨by omega, h2, h3, h4, h5⟩
    · rw [if_neg q]
      dsimp only
      refine ⟨by split <;> omega, ?_, by split <;> omega, h6, fun z => absurd z q⟩
      constructor
      · intro z
        split at z <;> omega
      · intro z; exact absurd z q
theorem s_lastPass {r c : Nat} {k : Nat → Nat} (hR : RC r c) {passes : Nat → Int32} (hP : PaR r c k (LY r c k).1 passes) {steps : Int32} {firsts : Nat → Int32} (hF : ∀ l, l ≤ (LY r c k).2.1 → firsts l = nI ((LY r c k).2.2.2.2 l)) {l : Nat} (hl : l < (LY r c k).2.1) {Q : Int32 → Prop} (h : Q (nI (alE r c k (LY r c k) l).2.2)) : wX1_lastPass passes steps firsts (nI l) Q := by
  obtain ⟨P, hn, h36⟩ := LY_fact k hR
  obtain ⟨b1, b2⟩ := bg_lim P hl
  unfold wX1_lastPass
  rw [nI_1]
  refine s_first hF h36 (by omega) (s_first hF h36 (by omega) ?_)
  unfold lX1_lastPass_18
  refine lp_up (fun i a => (∃ j, i = (LY r c k).2.2.2.2 l + j ∧ a.1 = nI (alP r c k (LY r c k) l j).2.2) ∧ a.2 = nI i) ((LY r c k).2.2.2.2 (l + 1)) ?_ FU ((LY r c k).2.2.2.2 l) _ ⟨⟨0, rfl, rfl⟩, rfl⟩ (by omega) (FU_of (by omega))
  rintro RR i ⟨x3, x5⟩ ⟨⟨j, gj, g1⟩, g2⟩ hi hRR
  dsimp only at g1 g2 ⊢
  subst g1; subst g2
  unfold bX1_lastPass_18
  by_cases q : i < (LY r c k).2.2.2.2 (l + 1)
  · rw [if_neg (nI_ge q (by omega))]
    refine s_isIn ?_
    rw [isIn_in (by omega) (by omega), if_neg (by decide)]
    refine ⟨vp_in_nI (by omega) (by omega), ?_⟩
    rw [nI_clamp (by omega), hP i (by omega), nI_1]
    have h3 := psT_2 r c k (LY r c k) i
    have hst : alP r c k (LY r c k) l (j + 1) = alG (psT r c k (LY r c k) i) (alP r c k (LY r c k) l j) := by rw [gj]; rfl
    by_cases z : psT r c k (LY r c k) i = 0
    · rw [if_pos (by rw [z]; rfl)]
      refine hRR q _ ⟨⟨j + 1, by omega, ?_⟩, rfl⟩
      rw [hst]
      unfold alG
      rw [if_pos z]
    · rw [if_neg (nI_ne0 (by omega) (by omega))]
      refine hRR q _ ⟨⟨j + 1, by omega, ?_⟩, rfl⟩
      rw [hst]
      unfold alG
      rw [if_neg z]
  · rw [if_pos (nI_le (by omega) (by omega))]
    have e : j = lenL (LY r c k) l := by unfold lenL; omega
    subst e
    exact h
theorem s_countUneven {r c : Nat} {k : Nat → Nat} (hR : RC r c) {passes : Nat → Int32} (hP : PaR r c k (LY r c k).1 passes) {steps : Int32} {firsts : Nat → Int32} (hF : ∀ l, l ≤ (LY r c k).2.1 → firsts l = nI ((LY r c k).2.2.2.2 l)) {l : Nat} (hl : l < (LY r c k).2.1) {Q : Int32 → Prop} (h : Q (nI (unE r c k (LY r c k) l))) : wX1_countUneven passes steps firsts (nI l) Q := by
  obtain ⟨P, hn, h36⟩ := LY_fact k hR
  obtain ⟨b1, b2⟩ := bg_lim P hl
  unfold wX1_countUneven
  refine s_lastPass hR hP hF hl ?_
  rw [nI_1]
  refine s_first hF h36 (by omega) (s_first hF h36 (by omega) ?_)
  unfold lX1_countUneven_26
  have hE := alP_ok r c k (LY r c k) l (lenL (LY r c k) l)
  refine lp_up (fun i a => (∃ j, i = (LY r c k).2.2.2.2 l + j ∧ a.1 = nI ((alP r c k (LY r c k) l j).1 + (if (alP r c k (LY r c k) l j).2.2 ≠ 0 ∧ (alP r c k (LY r c k) l j).2.1 = (alE r c k (LY r c k) l).2.2 then 1 else 0)) ∧ a.2.1 = nI (if (alP r c k (LY r c k) l j).2.2 = 0 then (alE r c k (LY r c k) l).2.2 else (alP r c k (LY r c k) l j).2.2)) ∧ a.2.2 = nI i) ((LY r c k).2.2.2.2 (l + 1)) ?_ FU ((LY r c k).2.2.2.2 l) _ ⟨⟨0, rfl, rfl, rfl⟩, rfl⟩ (by omega) (FU_of (by omega))
  rintro RR i ⟨x3, x4, x6⟩ ⟨⟨j, gj, g1, g2⟩, g3⟩ hi hRR
  dsimp only at g1 g2 g3 ⊢
  subst g1; subst g2; subst g3
  unfold bX1_countUneven_26
  have hJ := alP_ok r c k (LY r c k) l j
  by_cases q : i < (LY r c k).2.2.2.2 (l + 1)
  · rw [if_neg (nI_ge q (by omega))]
    refine s_isIn ?_
    rw [isIn_in (by omega) (by omega), if_neg (by decide)]
    refine ⟨vp_in_nI (by omega) (by omega), ?_⟩
    rw [nI_clamp (by omega), hP i (by omega), nI_1]
    have h3 := psT_2 r c k (LY r c k) i
    have hst : alP r c k (LY r c k) l (j + 1) = alG (psT r c k (LY r c k) i) (alP r c k (LY r c k) l j) := by rw [gj]; rfl
    have hE2 : (alE r c k (LY r c k) l).2.2 ≤ 2 := hE.2.2.2.1
    by_cases z : psT r c k (LY r c k) i = 0
    · rw [if_pos (by rw [z]; rfl)]
      have hst2 : alP r c k (LY r c k) l (j + 1) = alP r c k (LY r c k) l j := by rw [hst]; unfold alG; rw [if_pos z]
      refine hRR q _ ⟨⟨j + 1, by omega, ?_, ?_⟩, rfl⟩
      · rw [hst2]
      · rw [hst2]
    · rw [if_neg (nI_ne0 (by omega) (by omega))]
      generalize psT r c k (LY r c k) i = v at z h3 hst ⊢
      generalize (alE r c k (LY r c k) l).2.2 = LP at hE2 hRR ⊢
      have e1 : (alP r c k (LY r c k) l (j + 1)).1 = (if v = (alP r c k (LY r c k) l j).2.2 then (alP r c k (LY r c k) l j).1 + 1 else (alP r c k (LY r c k) l j).1) := by rw [hst]; unfold alG; rw [if_neg z]
      have e2 : (alP r c k (LY r c k) l (j + 1)).2.1 = (if (alP r c k (LY r c k) l j).2.1 = 0 then v else (alP r c k (LY r c k) l j).2.1) := by rw [hst]; unfold alG; rw [if_neg z]
      have e3 : (alP r c k (LY r c k) l (j + 1)).2.2 = v := by rw [hst]; unfold alG; rw [if_neg z]
      generalize alP r c k (LY r c k) l j = s at hJ e1 e2 ⊢
      obtain ⟨j1, j2, j3, j4, j5⟩ := hJ
      refine hRR q _ ⟨⟨j + 1, by omega, ?_, ?_⟩, rfl⟩
      · rw [e1, e2, e3]
        dsimp only
        by_cases y : s.2.2 = 0
        · have y1 := j2.mpr y
          have y5 := j5 y
          rw [if_pos y, if_pos y1, if_neg (by omega : ¬ v = s.2.2), y5]
          by_cases w : v = LP
          · rw [if_pos (by rw [w]), if_neg (fun x => x.1 y), if_pos ⟨z, w⟩, nI_1] <;> rfl
          · rw [if_neg (fun x => w (nI_inj (by omega) (by omega) x)), if_neg (fun x => x.1 y), if_neg (fun x => w x.2)] <;> rfl
        · have y1 : ¬ s.2.1 = 0 := fun x => y (j2.mp x)
          rw [if_neg y, if_neg y1]
          by_cases w : v = s.2.2
          · rw [if_pos (by rw [w]), if_pos w, nI_1]
            by_cases u : s.2.1 = LP
            · rw [if_pos ⟨y, u⟩, if_pos ⟨z, u⟩]
            · rw [if_neg (fun x => u x.2), if_neg (fun x => u x.2)]
          · rw [if_neg (fun x => w (nI_inj (by omega) (by omega) x)), if_neg w]
            by_cases u : s.2.1 = LP
            · rw [if_pos ⟨y, u⟩, if_pos ⟨z, u⟩]
            · rw [if_neg (fun x => u x.2), if_neg (fun x => u x.2)]
      · rw [e3, if_neg z]
  · rw [if_pos (nI_le (by omega) (by omega))]
    have e : j = lenL (LY r c k) l := by unfold lenL; omega
    subst e
    exact h
