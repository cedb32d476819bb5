theorem s_fill {n : Nat} {f : Nat → Int32} {x : Int32} {Q : (Nat → Int32) → Prop} (hn : n < 20000) (h : ∀ g : Nat → Int32, (∀ i, i < n → g i = x) → (∀ i, n ≤ i → g i = f i) → Q g) : wJ7_fill_53178 n f x Q := by
  unfold wJ7_fill_53178 lJ7_fill_53178_5
  refine lp_up (fun i a => a.1 = nI i ∧ (∀ j, j < i → a.2 j = x) ∧ ∀ j, i ≤ j → a.2 j = f j) n ?_ FU 0 _ ⟨rfl, fun j h => absurd h (Nat.not_lt_zero _), fun _ _ => rfl⟩ (Nat.zero_le _) (FU_of (by omega))
  rintro RR i ⟨x1, g⟩ ⟨g1, g2, g3⟩ hi hRR
  dsimp only at g1 g2 g3
  subst g1
  unfold bJ7_fill_53178_5
  by_cases q : i < n
  · rw [if_neg (nI_ge q (by omega))]
    refine ⟨vp_in_nI q (by omega), ?_⟩
    rw [nI_clamp (by omega), nI_1]
    refine hRR q _ ⟨rfl, fun j hj => ?_, fun j hj => ?_⟩
    · show upd g i x j = x
      rw [upd_e]
      by_cases z : j = i
      · rw [if_pos z]
      · rw [if_neg z]; exact g2 j (by omega)
    · show upd g i x j = f j
      rw [upd_e, if_neg (by omega)]; exact g3 j (by omega)
  · rw [if_pos (nI_le (by omega) (by omega))]
    unfold wJ7_fill_53178_X20
    have : i = n := by omega
    subst this
    exact h g g2 g3
theorem lay_skip {r c : Nat} {k : Nat → Nat} : ∀ {q p : Nat}, p ≤ q → (∀ j, p ≤ j → j < q → ¬ (j / 12 < 2 * r ∧ j % 12 < 2 * c)) → layM r c k q = layM r c k p := by
  intro q
  induction q with
  | zero => intro p h _; rw [show p = 0 by omega]
  | succ q ih =>
    intro p h hj
    rcases Nat.eq_or_lt_of_le h with e | e
    · rw [e]
    · have h1 := hj q (by omega) (by omega)
      have h2 : layM r c k (q + 1) = layM r c k q := if_neg (fun z => h1 ⟨z.1, z.2.1⟩)
      rw [h2, ih (by omega) (fun j a b => hj j a (by omega))]
/-- the loops object holds what is laid -/
def LoR (m : MS) (count steps : Int32) (owners firsts obs cells ends rw_ dw : Nat → Int32) : Prop := count = nI m.2.1 ∧ steps = nI m.1 ∧ OwR m owners ∧ (∀ l, l ≤ m.2.1 → firsts l = nI (m.2.2.2.2 l)) ∧ StR m obs cells ends rw_ dw
theorem OwR_en {m : MS} {owners : Nat → Int32} (h : OwR m owners) : OwR (enM m) owners := h
theorem StR_en {m : MS} {obs cells ends rw_ dw : Nat → Int32} (h : StR m obs cells ends rw_ dw) : StR (enM m) obs cells ends rw_ dw := h
theorem wk_lp {r c : Nat} {k : Nat → Nat} : ∀ (f : Nat) (s : S3) (m : MS), (wkM r c k f s m).2.1 = m.2.1 ∧ (wkM r c k f s m).2.2.2.2 = m.2.2.2.2 := by
  intro f
  induction f with
  | zero => intro s m; exact ⟨rfl, rfl⟩
  | succ f ih =>
    intro s m
    by_cases q : m.2.2.1 (ceN s) = 0
    · have e : wkM r c k (f + 1) s m = wkM r c k f (nx r c k s) (stM m s) := if_pos q
      rw [e]
      exact ih (nx r c k s) (stM m s)
    · have e : wkM r c k (f + 1) s m = m := if_neg q
      rw [e]
      exact ⟨rfl, rfl⟩
set_option maxHeartbeats 1000000 in
theorem s_follow {r c : Nat} {k : Nat → Nat} {down across inner : Int32} {pts kinds nums : Nat → Int32} (hR : RC r c) (hk : ∀ p, k p ≤ 3) (R : PlR r c k down across inner pts kinds nums) {count steps : Int32} {owners firsts obs cells ends rw_ dw : Nat → Int32} (h0 : firsts 0 = 0) {Q : Int32 → Int32 → (Nat → Int32) → (Nat → Int32) → (Nat → Int32) → (Nat → Int32) → (Nat → Int32) → (Nat → Int32) → (Nat → Int32) → Prop}
    (h : ∀ count' steps' owners' firsts' obs' cells' ends' rw' dw', LoR (LY r c k) count' steps' owners' firsts' obs' cells' ends' rw' dw' → Q count' steps' owners' firsts' obs' cells' ends' rw' dw') : wX2_follow count steps owners firsts obs cells ends rw_ dw down across kinds nums Q := by
  obtain ⟨r1, r2, r3, r4⟩ := id hR
  have hRd : down = nI r := R.1
  have hRa : across = nI c := R.2.1
  subst hRd
  subst hRa
  unfold wX2_follow
  refine s_fill (by omega) (fun ow ho _ => ?_)
  unfold lX2_follow_21
  refine lp_up (fun i a => a.1 = nI i ∧ LoR (layM r c k (12 * i)) a.2.1 a.2.2.1 a.2.2.2.1 a.2.2.2.2.1 a.2.2.2.2.2.1 a.2.2.2.2.2.2.1 a.2.2.2.2.2.2.2.1 a.2.2.2.2.2.2.2.2.1 a.2.2.2.2.2.2.2.2.2) (2 * r) ?_ FU 0 _ ⟨rfl, rfl, rfl, fun i hi => ?_, fun l hl => ?_, fun t ht => absurd ht (Nat.not_lt_zero _)⟩ (Nat.zero_le _) (FU_of (by omega))
  · rintro RR i ⟨x1, co, st, ow, fi, ob, ce, en, rg, dn⟩ ⟨g1, gL⟩ hi hRR
    dsimp only at g1 gL
    subst g1
    unfold bX2_follow_21
    rw [l2, pk_mul]
    by_cases q : i < 2 * r
    · rw [if_neg (nI_ge q (by omega))]
      unfold lX2_follow_33
      refine lp_up (fun j a => a.1 = nI j ∧ LoR (layM r c k (12 * i + j)) a.2.1 a.2.2.1 a.2.2.2.1 a.2.2.2.2.1 a.2.2.2.2.2.1 a.2.2.2.2.2.2.1 a.2.2.2.2.2.2.2.1 a.2.2.2.2.2.2.2.2.1 a.2.2.2.2.2.2.2.2.2) (2 * c) ?_ FU 0 _ ⟨rfl, gL⟩ (Nat.zero_le _) (FU_of (by omega))
      clear gL
      rintro RJ j ⟨x1, co, st, ow, fi, ob, ce, en, rg, dn⟩ ⟨g1, gL⟩ hj hRJ
      dsimp only at g1 gL
      subst g1
      unfold bX2_follow_33
      rw [l2, pk_mul]
      by_cases q2 : j < 2 * c
      · rw [if_neg (nI_ge q2 (by omega))]
        obtain ⟨a1, a2, a3, a4, a5⟩ := gL
        obtain ⟨P, -⟩ := lay_ok (k := k) r2 r4 (12 * i + j) (by omega)
        have hown := PM_own P
        have hlp := PM_lp r2 r4 P
        have hd1 : (12 * i + j) / 12 = i := by omega
        have hd2 : (12 * i + j) % 12 = j := by omega
        refine s_isFree (s := (i, j, true)) r2 r4 (fun n => by have := hown.1 n; omega) a3 ⟨q, q2⟩ ?_
        have hce : ceN (i, j, true) = 12 * i + j := rfl
        rw [hce]
        by_cases hz : (layM r c k (12 * i + j)).2.2.1 (12 * i + j) = 0
        · rw [decide_eq_true hz, bI_t, if_neg (by decide)]
          have hA := lay_at (by omega) P (by rw [hd1]; exact q) (by rw [hd2]; exact q2) hz
          rw [hd1, hd2] at hA
          have hn := hA.room r2 r4 (by rw [hce]; exact hz)
          have e : layM r c k (12 * i + j + 1) = enM (wkM r c k 145 (i, j, true) (layM r c k (12 * i + j))) := by
            have e1 : layM r c k (12 * i + j + 1) = enM (wkM r c k 145 ((12 * i + j) / 12, (12 * i + j) % 12, true) (layM r c k (12 * i + j))) := if_pos ⟨by rw [hd1]; exact q, by rw [hd2]; exact q2, hz⟩
            rw [e1, hd1, hd2]
          have hlt : (layM r c k (12 * i + j)).2.1 < 36 := by omega
          rw [a1, l36, if_neg (nI_ge hlt (by omega)), a2]
          refine s_goRound hR hk R hA rfl a3 a5 (fun ow' ob' ce' en' rg' dn' b1 b2 => ?_)
          have hwl := wk_lp (r := r) (c := c) (k := k) 145 (i, j, true) (layM r c k (12 * i + j))
          rw [l1, nI_add]
          refine ⟨vp_in_nI (by omega) (by omega), ?_⟩
          rw [nI_clamp (by omega), nI_add]
          refine hRJ q2 _ ⟨rfl, ?_⟩
          show LoR (layM r c k (12 * i + (j + 1))) _ _ _ _ _ _ _ _ _
          rw [show 12 * i + (j + 1) = 12 * i + j + 1 by omega, e]
          refine ⟨?_, rfl, OwR_en b1, fun l hl => ?_, StR_en b2⟩
          · show nI ((layM r c k (12 * i + j)).2.1 + 1) = nI ((wkM r c k 145 (i, j, true) (layM r c k (12 * i + j))).2.1 + 1)
            rw [hwl.1]
          · have hl2 : l ≤ (wkM r c k 145 (i, j, true) (layM r c k (12 * i + j))).2.1 + 1 := hl
            rw [hwl.1] at hl2
            show upd fi ((layM r c k (12 * i + j)).2.1 + 1) _ l = nI (bgU (wkM r c k 145 (i, j, true) (layM r c k (12 * i + j))).2.2.2.2 ((wkM r c k 145 (i, j, true) (layM r c k (12 * i + j))).2.1 + 1) (wkM r c k 145 (i, j, true) (layM r c k (12 * i + j))).1 l)
            rw [upd_e, hwl.1, hwl.2]
            unfold bgU
            by_cases z : l = (layM r c k (12 * i + j)).2.1 + 1
            · rw [if_pos z, if_pos z]
            · rw [if_neg z, if_neg z]; exact a4 l (by omega)
        · rw [decide_eq_false hz, bI_f, if_pos rfl, l1, nI_add]
          have e : layM r c k (12 * i + j + 1) = layM r c k (12 * i + j) := if_neg (fun z => hz z.2.2)
          refine hRJ q2 _ ⟨rfl, ?_⟩
          show LoR (layM r c k (12 * i + (j + 1))) _ _ _ _ _ _ _ _ _
          rw [show 12 * i + (j + 1) = 12 * i + j + 1 by omega, e]
          exact ⟨a1, a2, a3, a4, a5⟩
      · rw [if_pos (nI_le (by omega) (by omega))]
        unfold wX2_follow_X98
        rw [l1, nI_add]
        have : j = 2 * c := by omega
        subst this
        refine hRR q _ ⟨rfl, ?_⟩
        show LoR (layM r c k (12 * (i + 1))) _ _ _ _ _ _ _ _ _
        rw [lay_skip (p := 12 * i + 2 * c) (q := 12 * (i + 1)) (by omega) (fun n h1 h2 z => by omega)]
        exact gL
    · rw [if_pos (nI_le (by omega) (by omega))]
      unfold wX2_follow_X104
      have : i = 2 * r := by omega
      subst this
      refine h _ _ _ _ _ _ _ _ _ ?_
      unfold LY
      rw [lay_skip (p := 12 * (2 * r)) (q := 144) (by omega) (fun n h1 h2 z => by omega)]
      exact gL
  · show ow i = if (0 : Nat) = 0 then -9 else nI (0 - 1)
    rw [if_pos rfl]
    exact ho i hi
  · have hl2 : l ≤ 0 := hl
    show firsts l = nI 0
    rw [show l = 0 by omega, h0]; rfl
