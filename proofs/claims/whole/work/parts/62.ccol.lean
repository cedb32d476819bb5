/-! the rules of the crossings as rows; rows cleared one behind the other -/
theorem jr_T (x y : Int32) : (jr x y).toInt = x.toInt.tmod y.toInt := by
  have a := (x % y).toInt_lt
  have b := (x % y).le_toInt
  rw [Int32.toInt_mod] at a b
  unfold jr
  rw [Int32.toInt_sub, Int32.toInt_mul, Int32.toInt_div, Int.bmod_mul_bmod, Int.sub_bmod_bmod, Int.mul_comm, ← Int.tmod_def]
  exact fb_bmod (by simpa using b) (by simpa using a)
def P357 (P : Nat) : Prop := P = 3 ∨ P = 5 ∨ P = 7
theorem jr_ok (x : Int32) {P : Nat} (hP : P357 P) : (jr x (nI P)).toInt % (P : Int) = x.toInt % (P : Int) ∧ -(P : Int) < (jr x (nI P)).toInt ∧ (jr x (nI P)).toInt < (P : Int) ∧ (jr x (nI P) = 0 ↔ x.toInt % (P : Int) = 0) := by
  have hz : jr x (nI P) = 0 ↔ (jr x (nI P)).toInt = 0 := ⟨fun e => by rw [e]; rfl, fun e => Int32.toInt_inj.mp e⟩
  rw [hz, jr_T]
  rcases hP with rfl | rfl | rfl
  · rw [show (nI 3).toInt = ((3 : Nat) : Int) from rfl]
    have h1 := Int.tmod_add_mul_tdiv x.toInt ((3 : Nat) : Int)
    have h2 := Int.tmod_lt_of_pos x.toInt (show (0 : Int) < ((3 : Nat) : Int) by decide)
    have h3 := Int.lt_tmod_of_pos x.toInt (show (0 : Int) < ((3 : Nat) : Int) by decide)
    generalize x.toInt.tmod ((3 : Nat) : Int) = t at h1 h2 h3 ⊢
    generalize x.toInt.tdiv ((3 : Nat) : Int) = q at h1
    omega
  · rw [show (nI 5).toInt = ((5 : Nat) : Int) from rfl]
    have h1 := Int.tmod_add_mul_tdiv x.toInt ((5 : Nat) : Int)
    have h2 := Int.tmod_lt_of_pos x.toInt (show (0 : Int) < ((5 : Nat) : Int) by decide)
    have h3 := Int.lt_tmod_of_pos x.toInt (show (0 : Int) < ((5 : Nat) : Int) by decide)
    generalize x.toInt.tmod ((5 : Nat) : Int) = t at h1 h2 h3 ⊢
    generalize x.toInt.tdiv ((5 : Nat) : Int) = q at h1
    omega
  · rw [show (nI 7).toInt = ((7 : Nat) : Int) from rfl]
    have h1 := Int.tmod_add_mul_tdiv x.toInt ((7 : Nat) : Int)
    have h2 := Int.tmod_lt_of_pos x.toInt (show (0 : Int) < ((7 : Nat) : Int) by decide)
    have h3 := Int.lt_tmod_of_pos x.toInt (show (0 : Int) < ((7 : Nat) : Int) by decide)
    generalize x.toInt.tmod ((7 : Nat) : Int) = t at h1 h2 h3 ⊢
    generalize x.toInt.tdiv ((7 : Nat) : Int) = q at h1
    omega
theorem cong4 {a b c d a' b' c' d' n : Int} (ha : a % n = a' % n) (hb : b % n = b' % n) (hc : c % n = c' % n) (hd : d % n = d' % n) : (a * b - c * d) % n = (a' * b' - c' * d') % n := by
  rw [Int.sub_emod, Int.mul_emod a b, Int.mul_emod c d, ha, hb, hc, hd, ← Int.mul_emod, ← Int.mul_emod, ← Int.sub_emod]
theorem prod_le {a b : Int} (h1 : -20 ≤ a) (h2 : a ≤ 20) (h3 : -20 ≤ b) (h4 : b ≤ 20) : -400 ≤ a * b ∧ a * b ≤ 400 := by
  have p1 := Int.mul_nonneg (show (0 : Int) ≤ a + 20 by omega) (show (0 : Int) ≤ b + 20 by omega)
  have p2 := Int.mul_nonneg (show (0 : Int) ≤ 20 - a by omega) (show (0 : Int) ≤ 20 - b by omega)
  have p3 := Int.mul_nonneg (show (0 : Int) ≤ a + 20 by omega) (show (0 : Int) ≤ 20 - b by omega)
  have p4 := Int.mul_nonneg (show (0 : Int) ≤ 20 - a by omega) (show (0 : Int) ≤ b + 20 by omega)
  have e1 : (a + 20) * (b + 20) = a * b + 20 * a + 20 * b + 400 := by rw [Int.add_mul, Int.mul_add, Int.mul_add]; omega
  have e2 : (20 - a) * (20 - b) = a * b - 20 * a - 20 * b + 400 := by rw [Int.sub_mul, Int.mul_sub, Int.mul_sub]; omega
  have e3 : (a + 20) * (20 - b) = 20 * a - a * b - 20 * b + 400 := by rw [Int.add_mul, Int.mul_sub, Int.mul_sub]; omega
  have e4 : (20 - a) * (b + 20) = 20 * b - a * b - 20 * a + 400 := by rw [Int.sub_mul, Int.mul_add, Int.mul_add]; omega
  omega
abbrev MX : Type := Nat → Nat → Int
noncomputable def aOv (r c : Nat) (k : Nat → Nat) (p : Nat) : Nat := arT r c k (LY r c k) (stD (LY r c k) p (ovD k p))
noncomputable def aIn (r c : Nat) (k : Nat → Nat) (p : Nat) : Nat := arT r c k (LY r c k) (stD (LY r c k) p (!ovD k p))
noncomputable def aOut (r c : Nat) (k : Nat → Nat) (p : Nat) : Nat := arT r c k (LY r c k) (aft (LY r c k) (stD (LY r c k) p (!ovD k p)))
theorem ar_lt {r c : Nat} {k : Nat → Nat} (hR : RC r c) {p : Nat} (hc : crB r c k p = true) : aOv r c k p < arN r c k (LY r c k) (LY r c k).2.1 ∧ aIn r c k p < arN r c k (LY r c k) (LY r c k).2.1 ∧ aOut r c k p < arN r c k (LY r c k) (LY r c k).2.1 ∧ arN r c k (LY r c k) (LY r c k).2.1 ≤ 96 := by
  obtain ⟨P, hn, h36⟩ := LY_fact k hR
  have a1 := (stD_ps hR hc (ovD k p)).1
  have a2 := (stD_ps hR hc (!ovD k p)).1
  have a3 := (aft_ok P a2).1
  exact ⟨(arT_lt hR a1).1, (arT_lt hR a2).1, (arT_lt hR a3).1, (arT_lt hR a1).2⟩
noncomputable def rwE (r c : Nat) (k : Nat → Nat) (p j : Nat) : Int := (if j = aOv r c k p then 2 else 0) - (if j = aIn r c k p then 1 else 0) - (if j = aOut r c k p then 1 else 0)
noncomputable def cmG (r c : Nat) (k : Nat → Nat) (p : Nat) (s : Nat × MX) : Nat × MX := if crB r c k p = true then (s.1 + 1, fun i j => if i = s.1 then rwE r c k p j else s.2 i j) else s
noncomputable def cmP (r c : Nat) (k : Nat → Nat) (p : Nat) : Nat × MX := FP r c (cmG r c k) (0, fun _ _ => 0) p
theorem cmP_le (r c : Nat) (k : Nat → Nat) : ∀ p, (cmP r c k p).1 ≤ cnt r c p := by
  intro p
  induction p with
  | zero => exact Nat.le_refl _
  | succ p ih =>
    rw [cnt_succ]
    cases hq : inn r c p with
    | false =>
      have e : cmP r c k (p + 1) = cmP r c k p := FP_out hq
      rw [e]; exact ih
    | true =>
      have e : cmP r c k (p + 1) = cmG r c k p (cmP r c k p) := FP_in hq
      rw [e, if_pos rfl]
      unfold cmG
      split
      · show (cmP r c k p).1 + 1 ≤ _; omega
      · omega
/-- the programs' steps on rows -/
def swM (A : MX) (a b : Nat) : MX := fun i j => if i = b then A a j else if i = a then A b j else A i j
def clM (P H : Nat) (A : MX) (a col : Nat) : MX := fun i j => if a < i ∧ i < H ∧ ¬ A i col % (P : Int) = 0 then (A i j * A a col - A a j * A i col) % (P : Int) else A i j
def fdR (P : Nat) (A : MX) (col : Nat) : Nat → Nat → Option Nat
  | 0, _ => none
  | n + 1, i => if A i col % (P : Int) = 0 then fdR P A col n (i + 1) else some i
def elR (P H : Nat) : Nat → Nat → Nat → MX → Nat
  | 0, rank, _, _ => rank
  | f + 1, rank, col, A => match fdR P A col (H - rank) rank with
    | none => elR P H f rank (col + 1) A
    | some i => elR P H f (rank + 1) (col + 1) (clM P H (swM A rank i) rank col)
noncomputable def coE (r c : Nat) (k : Nat → Nat) (P : Nat) : Nat := elR P (cmP r c k 169).1 (arN r c k (LY r c k) (LY r c k).2.1) 0 0 (cmP r c k 169).2
theorem fdR_in {P : Nat} {A : MX} {col : Nat} : ∀ (n i q : Nat), fdR P A col n i = some q → i ≤ q ∧ q < i + n := by
  intro n
  induction n with
  | zero => intro i q h; cases h
  | succ n ih =>
    intro i q h
    unfold fdR at h
    by_cases z : A i col % (P : Int) = 0
    · rw [if_pos z] at h
      have := ih _ _ h
      omega
    · rw [if_neg z] at h
      cases h
      omega
theorem elR_le (P H : Nat) : ∀ (f rank col : Nat) (A : MX), rank ≤ H → elR P H f rank col A ≤ H ∧ elR P H f rank col A ≤ rank + f := by
  intro f
  induction f with
  | zero => intro rank col A h; exact ⟨h, Nat.le_refl _⟩
  | succ f ih =>
    intro rank col A h
    unfold elR
    cases hf : fdR P A col (H - rank) rank with
    | none =>
      have := ih rank (col + 1) A h
      exact ⟨this.1, by show elR P H f rank (col + 1) A ≤ _; omega⟩
    | some i =>
      have h1 := fdR_in _ _ _ hf
      have := ih (rank + 1) (col + 1) (clM P H (swM A rank i) rank col) (by omega)
      exact ⟨this.1, by show elR P H f (rank + 1) (col + 1) _ ≤ _; omega⟩
theorem elR_full {P H : Nat} : ∀ (f rank col : Nat) (A : MX), H ≤ rank → elR P H f rank col A = rank := by
  intro f
  induction f with
  | zero => intro rank col A h; rfl
  | succ f ih =>
    intro rank col A h
    unfold elR
    rw [show H - rank = 0 by omega]
    exact ih rank (col + 1) A h
/-- the component's rows -/
def RlM (L : List Nat) (rules : Nat → Option Nat) : Prop := (∀ i, i < 60 → ∃ y, rules i = some y ∧ y ∈ L) ∧ ∀ i j, i < 60 → j < 60 → rules i = rules j → i = j
def RwM (rules : Nat → Option Nat) (rows : Nat → Nat → Int32) (H W0 W P : Nat) (A : MX) : Prop := ∀ i, i < H → ∀ y, rules i = some y → ∀ j, W0 ≤ j → j < W → (rows y j).toInt % (P : Int) = A i j % (P : Int) ∧ -6 ≤ (rows y j).toInt ∧ (rows y j).toInt ≤ 6
theorem vu_s {f : Nat → Nat → Int32} {y : Nat} {g : Nat → Int32} : va_up f y g y = g := if_pos rfl
theorem vu_n {f : Nat → Nat → Int32} {y q : Nat} {g : Nat → Int32} (h : q ≠ y) : va_up f y g q = f q := if_neg h
theorem s_add {f : Nat → Int32} {i : Nat} {v : Int32} (hi : i < 96) {Q : (Nat → Int32) → Prop} (h : Q (upd f i (f i + v))) : wX0_add 96 f (nI i) v Q := by
  unfold wX0_add
  refine s_isIn ?_
  rw [isIn_in hi (by omega), if_neg (by decide)]
  refine ⟨vp_in_nI hi (by omega), ?_⟩
  rw [nI_clamp (by omega)]
  exact h
def LoF (r c : Nat) (k : Nat → Nat) (firsts : Nat → Int32) : Prop := ∀ l, l ≤ (LY r c k).2.1 → firsts l = nI ((LY r c k).2.2.2.2 l)
set_option maxHeartbeats 1000000 in
theorem s_gather {r c : Nat} {k : Nat → Nat} (hR : RC r c) {L : List Nat} {w h0 : Int32} {rules : Nat → Option Nat} (hRl : RlM L rules) {rows : Nat → Nat → Int32} {steps : Int32} {firsts ob ce en rg dn : Nat → Int32} (hF : LoF r c k firsts) (hS : StR (LY r c k) ob ce en rg dn) {abs ov un : Nat → Int32} (hA : ArR r c k (LY r c k).1 abs) (hO : OvF r c k (ovD k) ov) (hU : OvF r c k (fun p => !ovD k p) un) {Q : Int32 → Int32 → (Nat → Nat → Int32) → Prop}
    (h : ∀ rows', (∀ i, i < (cmP r c k 169).1 → ∀ y, rules i = some y → ∀ j, j < 96 → (rows' y j).toInt = (cmP r c k 169).2 i j ∧ -2 ≤ (rows' y j).toInt ∧ (rows' y j).toInt ≤ 2) → Q (nI (arN r c k (LY r c k) (LY r c k).2.1)) (nI (cmP r c k 169).1) rows') : wX0_gather L w h0 rules rows steps firsts ob (nI (arN r c k (LY r c k) (LY r c k).2.1)) abs ov un Q := by
  obtain ⟨P, hn, h36⟩ := LY_fact k hR
  have h60 := inN_le hR
  have h96 : arN r c k (LY r c k) (LY r c k).2.1 ≤ 96 := arN_96 hR (Nat.le_refl _)
  unfold wX0_gather lX0_gather_20
  refine lp_num (r := r) (c := c) (cmG r c k) ((0, fun _ _ => 0) : Nat × MX) (fun i s a => a.1 = nI i ∧ a.2.1 = nI s.1 ∧ s.1 ≤ i ∧ ∀ i', i' < s.1 → ∀ y, rules i' = some y → ∀ j, j < 96 → (a.2.2 y j).toInt = s.2 i' j ∧ -2 ≤ (a.2.2 y j).toInt ∧ (a.2.2 y j).toInt ≤ 2) 60 h60 ?_ ?_ ?_ FU _ ⟨rfl, rfl, Nat.le_refl _, fun i hi => absurd hi (Nat.not_lt_zero _)⟩ (FU_of (by omega))
  · rintro RR p s ⟨x1, x2, rw_⟩ h60p hp hip hb ⟨e1, e2, e3, e4⟩ hRR
    dsimp only at e1 e2 e4 ⊢
    subst e1; subst e2
    unfold bX0_gather_20
    rw [l60, if_neg (nI_ge h60p (by omega)), if_neg (nI_ge (by omega) (by omega)), nI_1]
    refine s_isHere hR hO hU hip ?_
    unfold cmG at hRR
    cases hc : crB r c k p with
    | false =>
      rw [hc, if_neg (by decide)] at hRR
      rw [bI_f, if_pos rfl]
      exact hRR _ ⟨rfl, rfl, by omega, e4⟩
    | true =>
      rw [hc, if_pos rfl] at hRR
      rw [bI_t, if_neg (by decide)]
      obtain ⟨y, hy, hyL⟩ := hRl.1 s.1 (by omega)
      have hU1 : un (cnt r c p) = nI (stD (LY r c k) p (!ovD k p)) := hU.1 p hc
      have a1 := (stD_ps hR hc (ovD k p)).1
      have a2 := (stD_ps hR hc (!ovD k p)).1
      have a3 := (aft_ok P a2).1
      obtain ⟨q1, q2, q3, q4⟩ := ar_lt hR hc
      refine ⟨vp_in_nI (by omega) (by omega), y, by rw [nI_clamp (by omega)]; exact hy, hyL, ?_⟩
      unfold wX1_underAt
      refine s_arr60 h60p ?_
      rw [hU1]
      refine s_fill (by omega) (fun g0 hg0 _ => ?_)
      unfold wX1_overAt
      refine s_arr60 h60p ?_
      rw [hO.1 p hc]
      refine s_arcAt (by omega) ?_
      rw [hA _ a1]
      refine s_add (i := aOv r c k p) (by omega) ?_
      refine s_arcAt (by omega) ?_
      rw [hA _ a2]
      refine s_add (i := aIn r c k p) (by omega) ?_
      refine s_stepAfter hR hF hS a2 ?_
      refine s_arcAt (by omega) ?_
      rw [hA _ a3]
      refine s_add (i := aOut r c k p) (by omega) ?_
      rw [nI_1]
      refine hRR _ ⟨rfl, rfl, by show s.1 + 1 ≤ _; omega, fun i' hi' y' hy' j hj => ?_⟩
      have hi2 : i' < s.1 + 1 := hi'
      dsimp only
      by_cases z : i' = s.1
      · subst z
        have : y' = y := by
          rw [hy] at hy'
          exact (Option.some.inj hy').symm
        subst this
        rw [vu_s, if_pos rfl]
        simp only [vu_s]
        unfold rwE
        rw [upd_e, upd_e, upd_e, upd_e, upd_e, upd_e, hg0 j hj, hg0 _ (show aOv r c k p < 96 by omega), hg0 _ (show aIn r c k p < 96 by omega), hg0 _ (show aOut r c k p < 96 by omega)]
        generalize aOv r c k p = o1
        generalize aIn r c k p = o2
        generalize aOut r c k p = o3
        rcases Classical.propComplete (j = o1) with w1 | w1 <;> rcases Classical.propComplete (j = o2) with w2 | w2 <;> rcases Classical.propComplete (j = o3) with w3 | w3 <;> rcases Classical.propComplete (o2 = o1) with w4 | w4 <;> rcases Classical.propComplete (o3 = o1) with w5 | w5 <;> rcases Classical.propComplete (o3 = o2) with w6 | w6 <;> first | (simp only [w1, w2, w3, w4, w5, w6, if_true, if_false]; decide) | (exfalso; simp only [eq_iff_iff, iff_true, iff_false] at w1 w2 w3 w4 w5 w6; omega)
      · have hne : y' ≠ y := fun e => by
          subst e
          exact z (hRl.2 i' s.1 (by omega) (by omega) (by rw [hy', hy]))
        rw [vu_n hne, vu_n hne, vu_n hne, vu_n hne, if_neg z]
        exact e4 i' (by omega) y' hy' j hj
  · rintro RR i s ⟨x1, x2, rw_⟩ hi1 hi2 hb ⟨e1, e2, e3, e4⟩ hRR
    dsimp only at e1 e2 e4 ⊢
    subst e1; subst e2
    unfold bX0_gather_20
    rw [l60, if_neg (nI_ge hi1 (by omega)), if_neg (nI_ge (by omega) (by omega)), nI_1]
    refine s_isHere9 hi1 (hO.2.2 i hi2 hi1) ?_
    rw [if_pos rfl]
    exact hRR _ ⟨rfl, rfl, by omega, e4⟩
  · rintro RR ⟨x1, x2, rw_⟩ ⟨e1, e2, e3, e4⟩
    dsimp only at e1 e2 e4 ⊢
    subst e1; subst e2
    unfold bX0_gather_20
    rw [l60, if_pos (nI_le (by omega) (by omega))]
    unfold wX0_gather_X126
    rw [l96, if_neg (nI_nlt h96 (by omega))]
    exact h _ e4
theorem s_findRule {L : List Nat} {rules : Nat → Option Nat} (hRl : RlM L rules) {rows : Nat → Nat → Int32} {H W P : Nat} {A : MX} (hP : P357 P) (hH : H ≤ 60) {col : Nat} (hc : col < W) (hW : W ≤ 96) (hM : RwM rules rows H col W P A) {from_ : Nat} (hf : from_ ≤ H) {Q : Int32 → Prop} (h1 : fdR P A col (H - from_) from_ = none → Q (-9)) (h2 : ∀ i, fdR P A col (H - from_) from_ = some i → i < H → Q (nI i)) : wX0_findRule L (nI H) rules rows (nI from_) (nI col) (nI P) Q := by
  have hP7 : P < 8 ∧ 0 < P := by rcases hP with rfl | rfl | rfl <;> omega
  unfold wX0_findRule lX0_findRule_3
  generalize hG : fdR P A col (H - from_) from_ = G at h1 h2
  refine lp_up (fun i a => a = nI i ∧ fdR P A col (H - i) i = G) H ?_ FU from_ _ ⟨rfl, hG⟩ hf (FU_of (by omega))
  rintro RR i a ⟨rfl, hT⟩ hi hRR
  unfold bX0_findRule_3
  by_cases q : i < H
  · rw [if_neg (nI_ge q (by omega))]
    obtain ⟨y, hy, hyL⟩ := hRl.1 i (by omega)
    refine ⟨vp_in_nI (by omega) (by omega), y, by rw [nI_clamp (by omega)]; exact hy, hyL, vp_in_nI (by omega) (by omega), nI_ne0 hP7.2 (by omega), ?_⟩
    rw [nI_clamp (by omega), nI_1]
    obtain ⟨m1, -, -⟩ := hM i q y hy col (Nat.le_refl _) hc
    obtain ⟨-, -, -, j4⟩ := jr_ok (rows y col) hP
    rw [show H - i = (H - (i + 1)) + 1 by omega] at hT
    unfold fdR at hT
    by_cases z : A i col % (P : Int) = 0
    · rw [if_pos z] at hT
      rw [if_pos (j4.mpr (by rw [m1]; exact z))]
      exact hRR q _ ⟨rfl, hT⟩
    · rw [if_neg z] at hT
      rw [if_neg (fun w => z (by rw [← m1]; exact j4.mp w))]
      exact h2 i hT.symm q
  · rw [if_pos (nI_le (by omega) (by omega))]
    have : i = H := by omega
    subst this
    rw [Nat.sub_self] at hT
    exact h1 hT.symm
theorem s_swap {L : List Nat} {rules : Nat → Option Nat} (hRl : RlM L rules) {a b : Nat} (ha : a < 60) (hb : b < 60) {Q : (Nat → Option Nat) → Prop} (h : ∀ rules', (∀ i, rules' i = if i = b then rules a else if i = a then rules b else rules i) → Q rules') : wX0_swap L rules (nI a) (nI b) Q := by
  obtain ⟨y2, hy2, hL2⟩ := hRl.1 a ha
  obtain ⟨y4, hy4, hL4⟩ := hRl.1 b hb
  unfold wX0_swap
  refine ⟨vp_in_nI ha (by omega), y2, by rw [nI_clamp (by omega)]; exact hy2, hL2, vp_in_nI hb (by omega), y4, by rw [nI_clamp (by omega)]; exact hy4, hL4, ?_⟩
  rw [nI_clamp (by omega), nI_clamp (by omega)]
  refine h _ (fun i => ?_)
  unfold va_up
  rw [hy2, hy4]
theorem RlM.swap {L : List Nat} {rules rules' : Nat → Option Nat} (hRl : RlM L rules) {a b : Nat} (ha : a < 60) (hb : b < 60) (h : ∀ i, rules' i = if i = b then rules a else if i = a then rules b else rules i) : RlM L rules' := by
  obtain ⟨h1, h2⟩ := hRl
  refine ⟨fun i hi => ?_, fun i j hi hj e => ?_⟩
  · rw [h]
    split
    · exact h1 a ha
    · split
      · exact h1 b hb
      · exact h1 i hi
  · rw [h, h] at e
    by_cases z1 : i = b
    · rw [if_pos z1] at e
      by_cases z2 : j = b
      · omega
      · rw [if_neg z2] at e
        by_cases z3 : j = a
        · rw [if_pos z3] at e
          have := h2 a b ha hb e
          omega
        · rw [if_neg z3] at e
          exact absurd (h2 a j ha hj e).symm z3
    · rw [if_neg z1] at e
      by_cases z2 : j = b
      · rw [if_pos z2] at e
        by_cases z3 : i = a
        · rw [if_pos z3] at e
          have := h2 b a hb ha e
          omega
        · rw [if_neg z3] at e
          exact absurd (h2 i a hi ha e) z3
      · rw [if_neg z2] at e
        by_cases z3 : i = a
        · rw [if_pos z3] at e
          by_cases z4 : j = a
          · omega
          · rw [if_neg z4] at e
            exact absurd (h2 b j hb hj e).symm z2
        · rw [if_neg z3] at e
          by_cases z4 : j = a
          · rw [if_pos z4] at e
            exact absurd (h2 i b hi hb e) z1
          · rw [if_neg z4] at e
            exact h2 i j hi hj e
theorem RwM.swap {rules rules' : Nat → Option Nat} {rows : Nat → Nat → Int32} {H W0 W P : Nat} {A : MX} (hM : RwM rules rows H W0 W P A) {a b : Nat} (ha : a < H) (hb : b < H) (h : ∀ i, rules' i = if i = b then rules a else if i = a then rules b else rules i) : RwM rules' rows H W0 W P (swM A a b) := by
  intro i hi y hy j h1 h2
  rw [h] at hy
  unfold swM
  by_cases z1 : i = b
  · rw [if_pos z1] at hy ⊢
    exact hM a ha y hy j h1 h2
  · rw [if_neg z1] at hy ⊢
    by_cases z2 : i = a
    · rw [if_pos z2] at hy ⊢
      exact hM b hb y hy j h1 h2
    · rw [if_neg z2] at hy ⊢
      exact hM i hi y hy j h1 h2
