/-! the model's colours -/
def MxR (P H W0 W : Nat) (M : Nat → Int32) (A : MX) : Prop := ∀ i, i < H → ∀ j, W0 ≤ j → j < W → (M (103 * i + j)).toInt % (P : Int) = A i j % (P : Int) ∧ -20 ≤ (M (103 * i + j)).toInt ∧ (M (103 * i + j)).toInt ≤ 20
theorem ix_eq {i j a b : Nat} (hj : j < 103) (hb : b < 103) : (103 * i + j = 103 * a + b) = (i = a ∧ j = b) := propext (by omega)
theorem jr_small (x : Int32) {P : Nat} (hP : P357 P) : (jr x (nI P)).toInt % (P : Int) = x.toInt % (P : Int) ∧ -20 ≤ (jr x (nI P)).toInt ∧ (jr x (nI P)).toInt ≤ 20 := by
  obtain ⟨j1, j2, j3, -⟩ := jr_ok x hP
  refine ⟨j1, ?_, ?_⟩
  · rcases hP with rfl | rfl | rfl <;> omega
  · rcases hP with rfl | rfl | rfl <;> omega
theorem jr_clearM {P : Nat} (hP : P357 P) {e f h l : Int32} {e' f' h' l' : Int} (he : e.toInt % (P : Int) = e' % (P : Int) ∧ -20 ≤ e.toInt ∧ e.toInt ≤ 20) (hf : f.toInt % (P : Int) = f' % (P : Int) ∧ -20 ≤ f.toInt ∧ f.toInt ≤ 20) (hh : h.toInt % (P : Int) = h' % (P : Int) ∧ -20 ≤ h.toInt ∧ h.toInt ≤ 20) (hl : l.toInt % (P : Int) = l' % (P : Int) ∧ -20 ≤ l.toInt ∧ l.toInt ≤ 20) : (jr (jr (e * f - h * l) (nI P) + nI P) (nI P)).toInt % (P : Int) = (e' * f' - l' * h') % (P : Int) % (P : Int) ∧ -20 ≤ (jr (jr (e * f - h * l) (nI P) + nI P) (nI P)).toInt ∧ (jr (jr (e * f - h * l) (nI P) + nI P) (nI P)).toInt ≤ 20 := by
  have p1 := prod_le (a := e.toInt) (b := f.toInt) (by omega) (by omega) (by omega) (by omega)
  have p2 := prod_le (a := h.toInt) (b := l.toInt) (by omega) (by omega) (by omega) (by omega)
  have e1 : (e * f).toInt = e.toInt * f.toInt := fb_mulI (by omega) (by omega)
  have e2 : (h * l).toInt = h.toInt * l.toInt := fb_mulI (by omega) (by omega)
  have e3 : (e * f - h * l).toInt = e.toInt * f.toInt - h.toInt * l.toInt := by
    rw [fb_subI (by rw [e1, e2]; omega) (by rw [e1, e2]; omega), e1, e2]
  obtain ⟨j1, j2, j3⟩ := jr_small (e * f - h * l) hP
  have hPn : (nI P).toInt = (P : Int) := nI_toInt (by rcases hP with rfl | rfl | rfl <;> omega)
  have hP7 : (P : Int) ≤ 7 ∧ (0 : Int) < (P : Int) := by rcases hP with rfl | rfl | rfl <;> omega
  have e4 : (jr (e * f - h * l) (nI P) + nI P).toInt = (jr (e * f - h * l) (nI P)).toInt + (P : Int) := by
    rw [fb_addI (by rw [hPn]; omega) (by rw [hPn]; omega), hPn]
  obtain ⟨k1, k2, k3⟩ := jr_small (jr (e * f - h * l) (nI P) + nI P) hP
  refine ⟨?_, k2, k3⟩
  rw [k1, e4, Int.add_emod_right, j1, e3, Int.emod_emod, Int.mul_comm l' h']
  exact cong4 he.1 hf.1 hh.1 hl.1
theorem MxR.less {P H W0 W1 W : Nat} {M : Nat → Int32} {A : MX} (h : MxR P H W0 W M A) (hle : W0 ≤ W1) : MxR P H W1 W M A := fun i hi j h1 h2 => h i hi j (by omega) h2
set_option maxHeartbeats 1000000 in
theorem m_swapC {P H W col : Nat} (hP : P357 P) (hH : H ≤ 60) (hW : W ≤ 96) {M : Nat → Int32} {A : MX} (hM : MxR P H col W M A) {a b : Nat} (ha : a < H) (hb : b < H) {K : (Nat → Int32) → Prop} (h : ∀ M', MxR P H col W M' (swM A a b) → K M') : lX6_sweep_44 (nI W) (nI a) (nI P) (nI b) K FU 0 M := by
  have hP7 : P < 8 ∧ 0 < P := by rcases hP with rfl | rfl | rfl <;> omega
  unfold lX6_sweep_44
  refine lp_up (fun x s => s.1 = nI x ∧ ∀ i, i < H → ∀ j, col ≤ j → j < W → (s.2 (103 * i + j)).toInt % (P : Int) = (if j < x then swM A a b i j else A i j) % (P : Int) ∧ -20 ≤ (s.2 (103 * i + j)).toInt ∧ (s.2 (103 * i + j)).toInt ≤ 20) W ?_ FU 0 _ ⟨rfl, fun i hi j h1 h2 => by rw [if_neg (Nat.not_lt_zero _)]; exact hM i hi j h1 h2⟩ (Nat.zero_le _) (FU_of (by omega))
  rintro RR x ⟨x6, g⟩ ⟨e1, hI⟩ hx hRR
  dsimp only at e1 hI ⊢
  subst e1
  unfold bX6_sweep_44
  by_cases q : x < W
  · have e103 : (103 : Int32) = nI 103 := rfl
    rw [if_neg (nI_ge q (by omega)), e103, pk_mul, pk_mul, nI_add, nI_add]
    refine ⟨vp_in_nI (by omega) (by omega), vp_in_nI (by omega) (by omega), nI_ne0 hP7.2 (by omega), ?_⟩
    rw [nI_clamp (by omega), nI_clamp (by omega), nI_1]
    refine hRR q _ ⟨rfl, fun i hi j h1 h2 => ?_⟩
    show (upd (upd g (103 * a + x) _) (103 * b + x) _ (103 * i + j)).toInt % (P : Int) = _ ∧ -20 ≤ (upd (upd g (103 * a + x) _) (103 * b + x) _ (103 * i + j)).toInt ∧ (upd (upd g (103 * a + x) _) (103 * b + x) _ (103 * i + j)).toInt ≤ 20
    rw [upd_e, upd_e]
    by_cases zj : j = x
    · subst zj
      rw [if_pos (show j < j + 1 by omega)]
      unfold swM
      by_cases z1 : i = b
      · rw [if_pos (by rw [z1]), if_pos z1]
        have := hI a ha j h1 h2
        rw [if_neg (Nat.lt_irrefl _)] at this
        exact this
      · rw [if_neg (by omega), if_neg z1]
        by_cases z2 : i = a
        · rw [if_pos (by rw [z2]), if_pos z2]
          have := hI b hb j h1 h2
          rw [if_neg (Nat.lt_irrefl _)] at this
          have h3 := jr_small (g (103 * b + j)) hP
          exact ⟨h3.1.trans this.1, h3.2⟩
        · rw [if_neg (by omega), if_neg z2]
          have := hI i hi j h1 h2
          rw [if_neg (Nat.lt_irrefl _)] at this
          exact this
    · rw [if_neg (by omega), if_neg (by omega)]
      have := hI i hi j h1 h2
      by_cases zl : j < x
      · rw [if_pos zl] at this
        rw [if_pos (by omega)]; exact this
      · rw [if_neg zl] at this
        rw [if_neg (by omega)]; exact this
  · rw [if_pos (nI_le (by omega) (by omega))]
    refine h _ (fun i hi j h1 h2 => ?_)
    have := hI i hi j h1 h2
    rw [if_pos (by omega)] at this
    exact this
set_option maxHeartbeats 2000000 in
theorem m_clearC {P H W col : Nat} (hP : P357 P) (hH : H ≤ 60) (hW : W ≤ 96) (hc : col < W) {M : Nat → Int32} {A : MX} (hM : MxR P H col W M A) {a : Nat} (ha : a < H) {K : (Nat → Int32) → Prop} (h : ∀ M', MxR P H col W M' (clM P H A a col) → K M') : lX6_sweep_134 (nI W) (nI a) (nI H) (nI col) (nI P) M K FU (nI a + 1) M := by
  have hP7 : P < 8 ∧ 0 < P := by rcases hP with rfl | rfl | rfl <;> omega
  have e103 : (103 : Int32) = nI 103 := rfl
  unfold lX6_sweep_134
  rw [nI_1]
  refine lp_up (fun x s => a < x ∧ s.1 = nI x ∧ ∀ i, i < H → ∀ j, col ≤ j → j < W → (s.2 (103 * i + j)).toInt % (P : Int) = (if i < x then clM P H A a col i j else A i j) % (P : Int) ∧ -20 ≤ (s.2 (103 * i + j)).toInt ∧ (s.2 (103 * i + j)).toInt ≤ 20) H ?_ FU (a + 1) _ ⟨by omega, rfl, fun i hi j h1 h2 => ?_⟩ (by omega) (FU_of (by omega))
  · rintro RR x ⟨x7, g⟩ ⟨hax, e1, hI⟩ hx hRR
    dsimp only at e1 hI ⊢
    subst e1
    unfold bX6_sweep_134
    by_cases q : x < H
    · rw [if_neg (nI_ge q (by omega)), e103, pk_mul, nI_add]
      refine ⟨vp_in_nI (by omega) (by omega), nI_ne0 hP7.2 (by omega), ?_⟩
      have hx7 : ∀ j, col ≤ j → j < W → (g (103 * x + j)).toInt % (P : Int) = A x j % (P : Int) ∧ -20 ≤ (g (103 * x + j)).toInt ∧ (g (103 * x + j)).toInt ≤ 20 := by
        intro j h1 h2
        have := hI x q j h1 h2
        rw [if_neg (Nat.lt_irrefl _)] at this
        exact this
      have hlead : ∀ j, col ≤ j → j < W → (g (103 * a + j)).toInt % (P : Int) = A a j % (P : Int) ∧ -20 ≤ (g (103 * a + j)).toInt ∧ (g (103 * a + j)).toInt ≤ 20 := by
        intro j h1 h2
        have := hI a ha j h1 h2
        rw [if_pos hax] at this
        have e : clM P H A a col a j = A a j := if_neg (by omega)
        rw [e] at this; exact this
      have hf := hM a ha col (Nat.le_refl _) hc
      have ht := hx7 col (Nat.le_refl _) hc
      obtain ⟨-, -, -, j4⟩ := jr_ok (g (103 * x + col)) hP
      have hh := jr_small (g (103 * x + col)) hP
      unfold lX6_sweep_160
      refine lp_up (fun j s => s.1 = nI j ∧ (∀ i, i ≠ x → ∀ j', j' < 103 → s.2 (103 * i + j') = g (103 * i + j')) ∧ (∀ j', j ≤ j' → j' < W → s.2 (103 * x + j') = g (103 * x + j')) ∧ ∀ j', col ≤ j' → j' < j → j' < W → (s.2 (103 * x + j')).toInt % (P : Int) = clM P H A a col x j' % (P : Int) ∧ -20 ≤ (s.2 (103 * x + j')).toInt ∧ (s.2 (103 * x + j')).toInt ≤ 20) W ?_ FU 0 _ ⟨rfl, fun _ _ _ _ => rfl, fun _ _ _ => rfl, fun j' _ h2 => absurd h2 (Nat.not_lt_zero _)⟩ (Nat.zero_le _) (FU_of (by omega))
      rintro RJ j ⟨x9, g2⟩ ⟨e1, k1, k2, k3⟩ hj hRJ
      dsimp only at e1 k1 k2 k3 ⊢
      subst e1
      unfold bX6_sweep_160
      have fin : (∀ j', col ≤ j' → j' < W → (g2 (103 * x + j')).toInt % (P : Int) = clM P H A a col x j' % (P : Int) ∧ -20 ≤ (g2 (103 * x + j')).toInt ∧ (g2 (103 * x + j')).toInt ≤ 20) → RR (nI (x + 1), g2) := by
        intro hrow
        refine hRR q _ ⟨by omega, rfl, fun i hi j' h1 h2 => ?_⟩
        by_cases w : i = x
        · subst w
          rw [if_pos (by omega)]
          exact hrow j' h1 h2
        · show (g2 (103 * i + j')).toInt % (P : Int) = _ ∧ -20 ≤ (g2 (103 * i + j')).toInt ∧ (g2 (103 * i + j')).toInt ≤ 20
          rw [k1 i w j' (by omega)]
          have h4 := hI i hi j' h1 h2
          by_cases w2 : i < x
          · rw [if_pos w2] at h4
            rw [if_pos (by omega)]; exact h4
          · rw [if_neg w2] at h4
            rw [if_neg (by omega)]; exact h4
      by_cases q2 : j < W
      · rw [if_neg (nI_ge q2 (by omega)), e103, pk_mul, pk_mul, nI_add, nI_add, nI_add, nI_clamp (n := 103 * x + col) (by omega)]
        by_cases z : A x col % (P : Int) = 0
        · rw [if_pos (j4.mpr (by rw [ht.1]; exact z))]
          unfold wX6_sweep_X238
          rw [nI_1]
          refine fin (fun j' h1 h2 => ?_)
          have e : clM P H A a col x j' = A x j' := if_neg (fun y => y.2.2 z)
          rw [e]
          by_cases w : j ≤ j'
          · rw [k2 j' w h2]; exact hx7 j' h1 h2
          · have := k3 j' h1 (by omega) h2
            rw [e] at this; exact this
        · rw [if_neg (fun w => z (by rw [← ht.1]; exact j4.mp w))]
          refine ⟨vp_in_nI (by omega) (by omega), vp_in_nI (by omega) (by omega), ?_⟩
          rw [nI_clamp (n := 103 * x + j) (by omega), nI_clamp (n := 103 * a + j) (by omega), nI_1]
          have hcd : (nI (103 * a) + nI col).toNatClampNeg = 103 * a + col := by rw [nI_add, nI_clamp (by omega)]
          refine hRJ q2 _ ⟨rfl, fun i hi j' hj' => ?_, fun j' h1 h2 => ?_, fun j' h1 h2 h3 => ?_⟩
          · show upd g2 (103 * x + j) _ (103 * i + j') = _
            rw [upd_e, if_neg (by omega)]
            exact k1 i hi j' hj'
          · show upd g2 (103 * x + j) _ (103 * x + j') = _
            rw [upd_e, if_neg (by omega)]
            exact k2 j' (by omega) h2
          · show (upd g2 (103 * x + j) _ (103 * x + j')).toInt % (P : Int) = _ ∧ -20 ≤ (upd g2 (103 * x + j) _ (103 * x + j')).toInt ∧ (upd g2 (103 * x + j) _ (103 * x + j')).toInt ≤ 20
            rw [upd_e]
            by_cases w : j' = j
            · subst w
              have e : clM P H A a col x j' = (A x j' * A a col - A a j' * A x col) % (P : Int) := if_pos ⟨hax, q, z⟩
              have hk1 : g2 (103 * a + j') = g (103 * a + j') := k1 a (by omega) j' (by omega)
              have hres := jr_clearM hP (hx7 j' h1 h3) hf ⟨hh.1.trans ht.1, hh.2⟩ (hlead j' h1 h3)
              rw [← e] at hres
              rw [if_pos rfl, k2 j' (Nat.le_refl _) h3, hk1]
              rw [hcd]
              exact hres
            · rw [if_neg (by omega)]; exact k3 j' h1 (by omega) h3
      · rw [if_pos (nI_le (by omega) (by omega))]
        have : j = W := by omega
        subst this
        unfold wX6_sweep_X238
        rw [nI_1]
        exact fin (fun j' h1 h2 => k3 j' h1 h2 h2)
    · rw [if_pos (nI_le (by omega) (by omega))]
      refine h _ (fun i hi j h1 h2 => ?_)
      have := hI i hi j h1 h2
      rw [if_pos (by omega)] at this
      exact this
  · have := hM i hi j h1 h2
    by_cases w : i < a + 1
    · rw [if_pos w]
      have e : clM P H A a col i j = A i j := if_neg (by omega)
      rw [e]; exact this
    · rw [if_neg w]; exact this
theorem m_sweep {P H W col : Nat} (hP : P357 P) (hH : H ≤ 60) (hW : W ≤ 96) (hc : col < W) {M : Nat → Int32} {A : MX} (hM : MxR P H col W M A) {a : Nat} (ha : a < H) {Q : Int32 → (Nat → Int32) → Prop} (h1 : fdR P A col (H - a) a = none → Q 0 M) (h2 : ∀ i, fdR P A col (H - a) a = some i → i < H → ∀ M', MxR P H col W M' (clM P H (swM A a i) a col) → Q 1 M') : wX6_sweep (nI W) M (nI a) (nI H) (nI col) (nI P) Q := by
  have hP7 : P < 8 ∧ 0 < P := by rcases hP with rfl | rfl | rfl <;> omega
  have e103 : (103 : Int32) = nI 103 := rfl
  unfold wX6_sweep lX6_sweep_3
  generalize hG : fdR P A col (H - a) a = G at h1 h2
  refine lp_up (fun i s => s = nI i ∧ fdR P A col (H - i) i = G) H ?_ FU a _ ⟨rfl, hG⟩ (by omega) (FU_of (by omega))
  rintro RR i s ⟨rfl, hT⟩ hi hRR
  unfold bX6_sweep_3
  by_cases q : i < H
  · rw [if_neg (nI_ge q (by omega)), e103, pk_mul, nI_add]
    refine ⟨vp_in_nI (by omega) (by omega), nI_ne0 hP7.2 (by omega), ?_⟩
    rw [nI_clamp (by omega), nI_1]
    obtain ⟨m1, -, -⟩ := hM i q col (Nat.le_refl _) hc
    obtain ⟨-, -, -, j4⟩ := jr_ok (M (103 * i + col)) hP
    rw [show H - i = (H - (i + 1)) + 1 by omega] at hT
    unfold fdR at hT
    by_cases z : A i col % (P : Int) = 0
    · rw [if_pos z] at hT
      rw [if_pos (j4.mpr (by rw [m1]; exact z))]
      exact hRR q _ ⟨rfl, hT⟩
    · rw [if_neg z] at hT
      rw [if_neg (fun w => z (by rw [← m1]; exact j4.mp w))]
      unfold wX6_sweep_X33
      rw [if_neg (fun e => by have := nI_inj (by omega) (by omega) e; omega)]
      refine m_swapC hP hH hW hM ha q (fun M1 hM1 => ?_)
      unfold wX6_sweep_X116
      rw [e103, pk_mul, nI_add]
      refine ⟨vp_in_nI (by omega) (by omega), ?_⟩
      refine m_clearC hP hH hW hc hM1 ha (fun M2 hM2 => ?_)
      unfold wX6_sweep_X244
      exact h2 i hT.symm q M2 hM2
  · rw [if_pos (nI_le (by omega) (by omega))]
    have : i = H := by omega
    subst this
    rw [Nat.sub_self] at hT
    unfold wX6_sweep_X33
    rw [if_pos rfl]
    exact h1 hT.symm
