/-! a row cleared; the rank; the component's colours -/
theorem jr_clear {P : Nat} (hP : P357 P) {e f l t : Int32} {e' f' l' t' : Int} (he : e.toInt % (P : Int) = e' % (P : Int) ∧ -6 ≤ e.toInt ∧ e.toInt ≤ 6) (hf : f.toInt % (P : Int) = f' % (P : Int) ∧ -6 ≤ f.toInt ∧ f.toInt ≤ 6) (hl : l.toInt % (P : Int) = l' % (P : Int) ∧ -6 ≤ l.toInt ∧ l.toInt ≤ 6) (ht : t.toInt % (P : Int) = t' % (P : Int) ∧ -6 ≤ t.toInt ∧ t.toInt ≤ 6) : (jr (e * f - l * t) (nI P)).toInt % (P : Int) = (e' * f' - l' * t') % (P : Int) % (P : Int) ∧ -6 ≤ (jr (e * f - l * t) (nI P)).toInt ∧ (jr (e * f - l * t) (nI P)).toInt ≤ 6 := by
  have p1 := prod_le (a := e.toInt) (b := f.toInt) (by omega) (by omega) (by omega) (by omega)
  have p2 := prod_le (a := l.toInt) (b := t.toInt) (by omega) (by omega) (by omega) (by omega)
  have e1 : (e * f).toInt = e.toInt * f.toInt := fb_mulI (by omega) (by omega)
  have e2 : (l * t).toInt = l.toInt * t.toInt := fb_mulI (by omega) (by omega)
  have e3 : (e * f - l * t).toInt = e.toInt * f.toInt - l.toInt * t.toInt := by
    rw [fb_subI (by rw [e1, e2]; omega) (by rw [e1, e2]; omega), e1, e2]
  obtain ⟨j1, j2, j3, -⟩ := jr_ok (e * f - l * t) hP
  rw [e3] at j1
  refine ⟨by rw [j1, Int.emod_emod]; exact cong4 he.1 hf.1 hl.1 ht.1, ?_, ?_⟩
  · rcases hP with rfl | rfl | rfl <;> omega
  · rcases hP with rfl | rfl | rfl <;> omega
set_option maxHeartbeats 1000000 in
theorem s_clear {L : List Nat} {rules : Nat → Option Nat} (hRl : RlM L rules) {rows : Nat → Nat → Int32} {H W P : Nat} {A : MX} (hP : P357 P) (hH : H ≤ 60) {col : Nat} (hc : col < W) (hW : W ≤ 96) (hM : RwM rules rows H col W P A) {rank : Nat} (hr : rank < H) {Q : (Nat → Nat → Int32) → Prop} (h : ∀ rows', RwM rules rows' H col W P (clM P H A rank col) → Q rows') : wX0_clearBelow L (nI W) (nI H) rules rows (nI rank) (nI col) (nI P) Q := by
  have hP7 : P < 8 ∧ 0 < P := by rcases hP with rfl | rfl | rfl <;> omega
  obtain ⟨y2, hy2, hL2⟩ := hRl.1 rank (by omega)
  unfold wX0_clearBelow
  refine ⟨vp_in_nI (by omega) (by omega), y2, by rw [nI_clamp (by omega)]; exact hy2, hL2, vp_in_nI (by omega) (by omega), ?_⟩
  unfold lX0_clearBelow_19
  rw [nI_1]
  refine lp_up (fun i a => rank < i ∧ a.1 = nI i ∧ ∀ i', i' < H → ∀ y, rules i' = some y → ∀ j, col ≤ j → j < W → (a.2 y j).toInt % (P : Int) = (if i' < i then clM P H A rank col i' j else A i' j) % (P : Int) ∧ -6 ≤ (a.2 y j).toInt ∧ (a.2 y j).toInt ≤ 6) H ?_ FU (rank + 1) _ ⟨by omega, rfl, fun i' hi' y hy j h1 h2 => ?_⟩ (by omega) (FU_of (by omega))
  · rintro RR i ⟨x6, rw1⟩ ⟨hri, e1, hI⟩ hi hRR
    dsimp only at e1 hI ⊢
    subst e1
    unfold bX0_clearBelow_19
    by_cases q : i < H
    · rw [if_neg (nI_ge q (by omega))]
      obtain ⟨y7, hy7, hL7⟩ := hRl.1 i (by omega)
      have hne : y7 ≠ y2 := fun e => by
        have := hRl.2 i rank (by omega) (by omega) (by rw [hy7, hy2, e])
        omega
      refine ⟨vp_in_nI (by omega) (by omega), y7, by rw [nI_clamp (by omega)]; exact hy7, hL7, nI_ne0 hP7.2 (by omega), ?_⟩
      rw [nI_clamp (by omega), nI_1]
      obtain ⟨-, -, -, j4⟩ := jr_ok (rw1 y7 col) hP
      have hi7 : ∀ j, col ≤ j → j < W → (rw1 y7 j).toInt % (P : Int) = A i j % (P : Int) ∧ -6 ≤ (rw1 y7 j).toInt ∧ (rw1 y7 j).toInt ≤ 6 := by
        intro j h1 h2
        have := hI i q y7 hy7 j h1 h2
        rw [if_neg (Nat.lt_irrefl i)] at this
        exact this
      have ht := hi7 col (Nat.le_refl _) hc
      have hlead : ∀ j, col ≤ j → j < W → (rw1 y2 j).toInt % (P : Int) = A rank j % (P : Int) ∧ -6 ≤ (rw1 y2 j).toInt ∧ (rw1 y2 j).toInt ≤ 6 := by
        intro j h1 h2
        have := hI rank hr y2 hy2 j h1 h2
        rw [if_pos hri] at this
        have e : clM P H A rank col rank j = A rank j := if_neg (by omega)
        rw [e] at this; exact this
      have hf := hM rank hr y2 hy2 col (Nat.le_refl _) hc
      by_cases z : A i col % (P : Int) = 0
      · rw [if_pos (j4.mpr (by rw [ht.1]; exact z))]
        refine hRR q _ ⟨by omega, rfl, fun i' hi' y hy j h1 h2 => ?_⟩
        have := hI i' hi' y hy j h1 h2
        by_cases w : i' = i
        · subst w
          rw [if_neg (Nat.lt_irrefl _)] at this
          rw [if_pos (by omega)]
          have e : clM P H A rank col i' j = A i' j := if_neg (fun x => x.2.2 z)
          rw [e]; exact this
        · by_cases w2 : i' < i
          · rw [if_pos w2] at this
            rw [if_pos (by omega)]; exact this
          · rw [if_neg w2] at this
            rw [if_neg (by omega)]; exact this
      · rw [if_neg (fun w => z (by rw [← ht.1]; exact j4.mp w))]
        unfold lX0_clearBelow_53
        refine lp_up (fun j a => col ≤ j ∧ a.1 = nI j ∧ (∀ y, y ≠ y7 → a.2 y = rw1 y) ∧ (∀ j', j ≤ j' → j' < W → a.2 y7 j' = rw1 y7 j') ∧ ∀ j', col ≤ j' → j' < j → j' < W → (a.2 y7 j').toInt % (P : Int) = clM P H A rank col i j' % (P : Int) ∧ -6 ≤ (a.2 y7 j').toInt ∧ (a.2 y7 j').toInt ≤ 6) W ?_ FU col _ ⟨Nat.le_refl _, rfl, fun _ _ => rfl, fun _ _ _ => rfl, fun j' h1 h2 => by omega⟩ (by omega) (FU_of (by omega))
        rintro RJ j ⟨x9, rw2⟩ ⟨hcj, e1, k1, k2, k3⟩ hj hRJ
        dsimp only at e1 k1 k2 k3 ⊢
        subst e1
        unfold bX0_clearBelow_53
        by_cases q2 : j < W
        · rw [if_neg (nI_ge q2 (by omega))]
          refine ⟨vp_in_nI (by omega) (by omega), ?_⟩
          rw [nI_clamp (by omega), nI_clamp (by omega), nI_1]
          refine hRJ q2 _ ⟨by omega, rfl, fun y hy => ?_, fun j' h1 h2 => ?_, fun j' h1 h2 h3 => ?_⟩
          · show va_up rw2 y7 _ y = rw1 y
            rw [vu_n hy]; exact k1 y hy
          · show va_up rw2 y7 _ y7 j' = rw1 y7 j'
            rw [vu_s, upd_e, if_neg (by omega)]
            exact k2 j' (by omega) h2
          · show (va_up rw2 y7 _ y7 j').toInt % (P : Int) = _ ∧ -6 ≤ (va_up rw2 y7 _ y7 j').toInt ∧ (va_up rw2 y7 _ y7 j').toInt ≤ 6
            rw [vu_s, upd_e]
            by_cases w : j' = j
            · subst w
              rw [if_pos rfl, k2 j' (Nat.le_refl _) h3, k1 y2 (fun e => hne e.symm)]
              have e : clM P H A rank col i j' = (A i j' * A rank col - A rank j' * A i col) % (P : Int) := if_pos ⟨hri, q, z⟩
              rw [e]
              exact jr_clear hP (hi7 j' h1 h3) hf (hlead j' h1 h3) ht
            · rw [if_neg w]; exact k3 j' h1 (by omega) h3
        · rw [if_pos (nI_le (by omega) (by omega))]
          have : j = W := by omega
          subst this
          unfold wX0_clearBelow_X92
          rw [nI_1]
          refine hRR q _ ⟨by omega, rfl, fun i' hi' y hy j' h1 h2 => ?_⟩
          show (rw2 y j').toInt % (P : Int) = _ ∧ -6 ≤ (rw2 y j').toInt ∧ (rw2 y j').toInt ≤ 6
          by_cases w : y = y7
          · subst w
            have : i' = i := hRl.2 i' i (by omega) (by omega) (by rw [hy, hy7])
            subst this
            rw [if_pos (by omega)]
            exact k3 j' h1 h2 h2
          · rw [k1 y w]
            have h4 := hI i' hi' y hy j' h1 h2
            have hne2 : i' ≠ i := fun e => by
              subst e
              rw [hy7] at hy
              exact w (Option.some.inj hy).symm
            by_cases w2 : i' < i
            · rw [if_pos w2] at h4
              rw [if_pos (by omega)]; exact h4
            · rw [if_neg w2] at h4
              rw [if_neg (by omega)]; exact h4
    · rw [if_pos (nI_le (by omega) (by omega))]
      unfold wX0_clearBelow_X98
      refine h _ (fun i' hi' y hy j h1 h2 => ?_)
      have := hI i' hi' y hy j h1 h2
      rw [if_pos (by omega)] at this
      exact this
  · show (rows y j).toInt % (P : Int) = _ ∧ -6 ≤ (rows y j).toInt ∧ (rows y j).toInt ≤ 6
    have := hM i' hi' y hy j h1 h2
    by_cases w : i' < rank + 1
    · rw [if_pos w]
      have e : clM P H A rank col i' j = A i' j := if_neg (by omega)
      rw [e]; exact this
    · rw [if_neg w]; exact this
theorem RwM.less {rules : Nat → Option Nat} {rows : Nat → Nat → Int32} {H W0 W1 W P : Nat} {A : MX} (h : RwM rules rows H W0 W P A) (hle : W0 ≤ W1) : RwM rules rows H W1 W P A := fun i hi y hy j h1 h2 => h i hi y hy j (by omega) h2
set_option maxHeartbeats 1000000 in
theorem s_countFree {r c : Nat} {k : Nat → Nat} (hR : RC r c) {L : List Nat} {w h0 : Int32} {rules : Nat → Option Nat} (hRl : RlM L rules) {rows : Nat → Nat → Int32} {steps : Int32} {firsts ob ce en rg dn : Nat → Int32} (hF : LoF r c k firsts) (hS : StR (LY r c k) ob ce en rg dn) {abs ov un : Nat → Int32} (hA : ArR r c k (LY r c k).1 abs) (hO : OvF r c k (ovD k) ov) (hU : OvF r c k (fun p => !ovD k p) un) {P : Nat} (hP : P357 P) {Q : Int32 → Int32 → Int32 → (Nat → Option Nat) → (Nat → Nat → Int32) → Prop}
    (h : ∀ w' h' rules' rows', RlM L rules' → Q (nI (arN r c k (LY r c k) (LY r c k).2.1) - nI (coE r c k P)) w' h' rules' rows') : wX0_countFree L w h0 rules rows steps firsts ob (nI (arN r c k (LY r c k) (LY r c k).2.1)) abs ov un (nI P) Q := by
  have hP7 : P < 8 ∧ 2 ≤ P := by rcases hP with rfl | rfl | rfl <;> omega
  have h96 : arN r c k (LY r c k) (LY r c k).2.1 ≤ 96 := arN_96 hR (Nat.le_refl _)
  have hH : (cmP r c k 169).1 ≤ 60 := by
    have h1 := cmP_le r c k 169
    have h2 := inN_le hR
    have h3 : cnt r c 169 = inN r c := rfl
    omega
  unfold wX0_countFree
  rw [l2, if_pos (nI_le hP7.2 (by omega))]
  refine s_gather hR hRl hF hS hA hO hU (fun rows0 hr0 => ?_)
  unfold coE at h
  generalize arN r c k (LY r c k) (LY r c k).2.1 = W at h96 h ⊢
  generalize (cmP r c k 169).1 = H at hH hr0 h ⊢
  generalize (cmP r c k 169).2 = A0 at hr0 h
  have hM0 : RwM rules rows0 H 0 W P A0 := by
    intro i hi y hy j h1 h2
    obtain ⟨g1, g2, g3⟩ := hr0 i hi y hy j (by omega)
    exact ⟨by rw [g1], by omega, by omega⟩
  unfold lX0_countFree_20
  refine lp_up (fun i a => ∃ rank A, a.1 = nI rank ∧ a.2.1 = nI i ∧ rank ≤ H ∧ RlM L a.2.2.1 ∧ RwM a.2.2.1 a.2.2.2 H i W P A ∧ elR P H (W - i) rank i A = elR P H W 0 0 A0) W ?_ FU 0 _ ⟨0, A0, rfl, rfl, Nat.zero_le _, hRl, hM0, rfl⟩ (Nat.zero_le _) (FU_of (by omega))
  rintro RR i ⟨x4, x5, ru, ro⟩ ⟨rank, A, e1, e2, e3, e4, e5, e6⟩ hi hRR
  dsimp only at e1 e2 e4 e5 ⊢
  subst e1; subst e2
  unfold bX0_countFree_20
  have fin : elR P H (W - i) rank i A = rank → wX0_countFree_X80 Q (nI W) (nI H) (nI rank) ru ro := by
    intro e
    unfold wX0_countFree_X80
    rw [← e6, e] at h
    exact h _ _ _ _ e4
  by_cases q : i < W
  · rw [if_neg (nI_ge q (by omega))]
    by_cases q2 : rank < H
    · rw [if_neg (nI_ge q2 (by omega))]
      have e7 : elR P H (W - i) rank i A = (match fdR P A i (H - rank) rank with
        | none => elR P H (W - (i + 1)) rank (i + 1) A
        | some j => elR P H (W - (i + 1)) (rank + 1) (i + 1) (clM P H (swM A rank j) rank i)) := by
        rw [show W - i = (W - (i + 1)) + 1 by omega]; rfl
      rw [e7] at e6
      refine s_findRule e4 hP hH q h96 e5 e3 (fun hn => ?_) (fun j hj hjH => ?_)
      · rw [hn] at e6
        rw [if_pos (by decide), nI_1]
        exact hRR q _ ⟨rank, A, rfl, rfl, e3, e4, e5.less (by omega), e6⟩
      · rw [hj] at e6
        rw [if_neg (nI_pos (by omega))]
        refine s_swap e4 (by omega) (by omega) (fun ru' hru => ?_)
        have h1 := e4.swap (show rank < 60 by omega) (show j < 60 by omega) hru
        have h2 := e5.swap q2 hjH hru
        refine s_clear h1 hP hH q h96 h2 q2 (fun ro' hro => ?_)
        rw [nI_1, nI_1]
        exact hRR q _ ⟨rank + 1, _, rfl, rfl, by omega, h1, hro.less (by omega), e6⟩
    · rw [if_pos (nI_le (by omega) (by omega))]
      exact fin (elR_full _ _ _ _ (by omega))
  · rw [if_pos (nI_le (by omega) (by omega))]
    refine fin ?_
    rw [show W - i = 0 by omega]; rfl
noncomputable def aColours (r c : Nat) (k : Nat → Nat) (x : Int32) : Int32 := if x = 3 then nI (arN r c k (LY r c k) (LY r c k).2.1) - nI (coE r c k 3) else if x = 5 then nI (arN r c k (LY r c k) (LY r c k).2.1) - nI (coE r c k 5) else if x = 7 then nI (arN r c k (LY r c k) (LY r c k).2.1) - nI (coE r c k 7) else -2
theorem c_colours {r c : Nat} {k : Nat → Nat} (hR : RC r c) {L : List Nat} {w h0 : Int32} {rules : Nat → Option Nat} (hRl : RlM L rules) {rows : Nat → Nat → Int32} {count steps : Int32} {owners firsts ob ce en rg dn : Nat → Int32} (hL : LoR (LY r c k) count steps owners firsts ob ce en rg dn) {arcs ties : Int32} {passes abs overs unders tied : Nat → Int32} (hC : CrR r c k arcs ties passes abs overs unders tied) {x : Int32} {Q : Int32 → Int32 → Int32 → (Nat → Option Nat) → (Nat → Nat → Int32) → Prop}
    (h : ∀ w' h' rules' rows', RlM L rules' → Q (aColours r c k x) w' h' rules' rows') : wX5_colours L steps firsts ob arcs abs overs unders w h0 rules rows x Q := by
  obtain ⟨a1, a2, a3, a4, a5⟩ := hL
  obtain ⟨c1, c2, c3, c4, c5, c6, c7⟩ := hC
  subst c1
  unfold wX5_colours wX5_colours_J19
  unfold aColours at h
  by_cases w3 : x = 3
  · rw [if_pos w3] at h ⊢
    subst w3
    exact s_countFree (P := 3) hR hRl a4 a5 c4 c5 c6 (Or.inl rfl) h
  rw [if_neg w3] at h ⊢
  by_cases w5 : x = 5
  · rw [if_pos w5] at h ⊢
    subst w5
    exact s_countFree (P := 5) hR hRl a4 a5 c4 c5 c6 (Or.inr (Or.inl rfl)) h
  rw [if_neg w5] at h ⊢
  by_cases w7 : x = 7
  · rw [if_pos w7] at h ⊢
    subst w7
    exact s_countFree (P := 7) hR hRl a4 a5 c4 c5 c6 (Or.inr (Or.inr rfl)) h
  rw [if_neg w7] at h ⊢
  exact h _ _ _ _ hRl
