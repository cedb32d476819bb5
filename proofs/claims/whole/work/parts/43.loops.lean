/-! the loops laid: steps so far, loops so far, whose a cell is (0: nobody's, else the loop and 1), the steps, where loops begin -/
abbrev MS : Type := Nat × Nat × (Nat → Nat) × (Nat → S3) × (Nat → Nat)
def PM (r c : Nat) (k : Nat → Nat) (n0 : Nat) (m : MS) : Prop := PInv r c k n0 m.1 m.2.1 m.2.2.1 m.2.2.2.1 m.2.2.2.2
def stM (m : MS) (s : S3) : MS := (m.1 + 1, m.2.1, ownU m.2.2.1 s (m.2.1 + 1), sqU m.2.2.2.1 m.1 s, m.2.2.2.2)
def wkM (r c : Nat) (k : Nat → Nat) : Nat → S3 → MS → MS
  | 0, _, m => m
  | f + 1, s, m => if m.2.2.1 (ceN s) = 0 then wkM r c k f (nx r c k s) (stM m s) else m
def enM (m : MS) : MS := (m.1, m.2.1 + 1, m.2.2.1, m.2.2.2.1, bgU m.2.2.2.2 (m.2.1 + 1) m.1)
def layM (r c : Nat) (k : Nat → Nat) : Nat → MS
  | 0 => (0, 0, fun _ => 0, fun _ => (0, 0, true), fun _ => 0)
  | i + 1 => if i / 12 < 2 * r ∧ i % 12 < 2 * c ∧ (layM r c k i).2.2.1 i = 0 then enM (wkM r c k 145 (i / 12, i % 12, true) (layM r c k i)) else layM r c k i
def LY (r c : Nat) (k : Nat → Nat) : MS := layM r c k 144
/-- where a walk may stand: at its begin, on a cell that is nobody's, or behind its last step -/
def WkAt (r c : Nat) (k : Nat → Nat) (n0 : Nat) (s0 s : S3) (m : MS) : Prop := PM r c k n0 m ∧ inG r c s ∧ (n0 < m.1 → s = nx r c k (m.2.2.2.1 (m.1 - 1)) ∧ m.2.2.2.1 n0 = s0) ∧ (m.1 = n0 → s = s0 ∧ m.2.2.1 (ceN s) = 0)
theorem WkAt.step {r c : Nat} {k : Nat → Nat} {n0 : Nat} {s0 s : S3} {m : MS} (h : WkAt r c k n0 s0 s m) (hf : m.2.2.1 (ceN s) = 0) : WkAt r c k n0 s0 (nx r c k s) (stM m s) := by
  obtain ⟨P, hG, h1, h2⟩ := h
  have hle : n0 ≤ m.1 := P.1
  have P' : PM r c k n0 (stM m s) := P_step P hG hf (fun h => (h1 h).1)
  refine ⟨P', nx_in hG, fun _ => ⟨?_, ?_⟩, fun e => ?_⟩
  · show nx r c k s = nx r c k (sqU m.2.2.2.1 m.1 s (m.1 + 1 - 1))
    rw [show m.1 + 1 - 1 = m.1 by omega]
    unfold sqU
    rw [if_pos rfl]
  · show sqU m.2.2.2.1 m.1 s n0 = s0
    unfold sqU
    by_cases q : n0 = m.1
    · rw [if_pos q]; exact (h2 q.symm).1
    · rw [if_neg q]; exact (h1 (by omega)).2
  · have e2 : m.1 + 1 = n0 := e
    omega
theorem WkAt.stop {r c : Nat} {k : Nat → Nat} {n0 : Nat} {s0 s : S3} {m : MS} (hc : c ≤ 6) (h : WkAt r c k n0 s0 s m) (hf : m.2.2.1 (ceN s) ≠ 0) : n0 < m.1 ∧ s = s0 ∧ PM r c k m.1 (enM m) := by
  obtain ⟨P, hG, h1, h2⟩ := h
  have hle : n0 ≤ m.1 := P.1
  have hn : n0 < m.1 := by
    rcases Nat.eq_or_lt_of_le hle with q | q
    · exact absurd (h2 q.symm).2 hf
    · exact q
  have hs := P_close hc P hn (h1 hn).1 hf
  refine ⟨hn, by rw [hs]; exact (h1 hn).2, P_end P hn ?_⟩
  exact (h1 hn).1.symm.trans hs
theorem WkAt.room {r c : Nat} {k : Nat → Nat} {n0 : Nat} {s0 s : S3} {m : MS} (hr : r ≤ 6) (hc : c ≤ 6) (h : WkAt r c k n0 s0 s m) (hf : m.2.2.1 (ceN s) = 0) : m.1 < 144 := P_room1 hr hc h.1 h.2.1 hf
/-- a walk with room enough ends where it began; what was somebody's stays -/
theorem wk_ok {r c : Nat} {k : Nat → Nat} {n0 : Nat} {s0 : S3} (hr : r ≤ 6) (hc : c ≤ 6) : ∀ (f : Nat) (s : S3) (m : MS), WkAt r c k n0 s0 s m → 145 ≤ m.1 + f → PM r c k (wkM r c k f s m).1 (enM (wkM r c k f s m)) ∧ (wkM r c k f s m).2.1 = m.2.1 ∧ (∀ i, m.2.2.1 i ≠ 0 → (wkM r c k f s m).2.2.1 i ≠ 0) ∧ (wkM r c k f s m).2.2.1 (ceN s) ≠ 0 := by
  intro f
  induction f with
  | zero =>
    intro s m h hf
    have := P_room hr hc h.1
    omega
  | succ f ih =>
    intro s m h hf
    by_cases q : m.2.2.1 (ceN s) = 0
    · have e : wkM r c k (f + 1) s m = wkM r c k f (nx r c k s) (stM m s) := if_pos q
      rw [e]
      obtain ⟨a1, a2, a3, a4⟩ := ih (nx r c k s) (stM m s) (h.step q) (by show 145 ≤ m.1 + 1 + f; omega)
      have hk : ∀ i, m.2.2.1 i ≠ 0 → (stM m s).2.2.1 i ≠ 0 := by
        intro i hi
        show ownU m.2.2.1 s (m.2.1 + 1) i ≠ 0
        unfold ownU
        by_cases z : i = ceN s
        · rw [if_pos z]; omega
        · rw [if_neg z]; exact hi
      refine ⟨a1, a2, fun i hi => a3 i (hk i hi), a3 (ceN s) ?_⟩
      show ownU m.2.2.1 s (m.2.1 + 1) (ceN s) ≠ 0
      unfold ownU
      rw [if_pos rfl]
      omega
    · have e : wkM r c k (f + 1) s m = m := if_neg q
      rw [e]
      exact ⟨(h.stop hc q).2.2, rfl, fun _ hi => hi, q⟩
theorem lay_at {r c : Nat} {k : Nat → Nat} {i : Nat} (hi : i < 144) (P : PM r c k (layM r c k i).1 (layM r c k i)) (h1 : i / 12 < 2 * r) (h2 : i % 12 < 2 * c) (h3 : (layM r c k i).2.2.1 i = 0) : WkAt r c k (layM r c k i).1 (i / 12, i % 12, true) (i / 12, i % 12, true) (layM r c k i) := by
  refine ⟨P, ⟨h1, h2⟩, fun q => by omega, fun _ => ⟨rfl, ?_⟩⟩
  show (layM r c k i).2.2.1 (12 * (i / 12) + i % 12) = 0
  rw [show 12 * (i / 12) + i % 12 = i by omega]
  exact h3
theorem lay_ok {r c : Nat} {k : Nat → Nat} (hr : r ≤ 6) (hc : c ≤ 6) : ∀ i, i ≤ 144 → PM r c k (layM r c k i).1 (layM r c k i) ∧ ∀ j, j < i → j / 12 < 2 * r → j % 12 < 2 * c → (layM r c k i).2.2.1 j ≠ 0 := by
  intro i
  induction i with
  | zero =>
    intro _
    refine ⟨⟨Nat.le_refl _, fun t h => absurd h (Nat.not_lt_zero _), fun t t' h => absurd h (Nat.not_lt_zero _), fun i h => absurd rfl h, fun t h => absurd h (Nat.not_lt_zero _), fun t _ h => absurd h (Nat.not_lt_zero _), rfl, rfl, fun l h => absurd h (Nat.not_lt_zero _), fun t h => absurd h (Nat.not_lt_zero _), fun t h => absurd h (Nat.not_lt_zero _), fun t _ h => absurd h (Nat.not_lt_zero _)⟩, fun j h => absurd h (Nat.not_lt_zero _)⟩
  | succ i ih =>
    intro hi
    obtain ⟨P, hm⟩ := ih (by omega)
    by_cases q : i / 12 < 2 * r ∧ i % 12 < 2 * c ∧ (layM r c k i).2.2.1 i = 0
    · have e : layM r c k (i + 1) = enM (wkM r c k 145 (i / 12, i % 12, true) (layM r c k i)) := if_pos q
      rw [e]
      obtain ⟨a1, a2, a3, a4⟩ := wk_ok hr hc 145 (i / 12, i % 12, true) (layM r c k i) (lay_at (by omega) P q.1 q.2.1 q.2.2) (by omega)
      refine ⟨a1, fun j hj h1 h2 => ?_⟩
      show (wkM r c k 145 (i / 12, i % 12, true) (layM r c k i)).2.2.1 j ≠ 0
      rcases Nat.lt_or_ge j i with h | h
      · exact a3 j (hm j h h1 h2)
      · have : ceN (i / 12, i % 12, true) = j := by
          show 12 * (i / 12) + i % 12 = j
          omega
        rw [← this]
        exact a4
    · have e : layM r c k (i + 1) = layM r c k i := if_neg q
      rw [e]
      refine ⟨P, fun j hj h1 h2 => ?_⟩
      rcases Nat.lt_or_ge j i with h | h
      · exact hm j h h1 h2
      · have : j = i := by omega
        subst this
        exact fun z => q ⟨h1, h2, z⟩
/-- the loops of a plait, laid: what holds of them -/
theorem LY_ok {r c : Nat} (k : Nat → Nat) (hr : r ≤ 6) (hc : c ≤ 6) : PM r c k (LY r c k).1 (LY r c k) ∧ ∀ row col, row < 2 * r → col < 2 * c → (LY r c k).2.2.1 (12 * row + col) ≠ 0 := by
  obtain ⟨P, h⟩ := lay_ok (k := k) hr hc 144 (Nat.le_refl _)
  exact ⟨P, fun row col h1 h2 => h _ (by omega) (by omega) (by omega)⟩
theorem PM_lp {r c : Nat} {k : Nat → Nat} {m : MS} (hr : r ≤ 6) (hc : c ≤ 6) (P : PM r c k m.1 m) : m.1 ≤ 144 ∧ 4 * m.2.1 ≤ m.1 := by
  refine ⟨P_room hr hc P, ?_⟩
  obtain ⟨-, -, -, -, -, -, p6, p7, p8, -⟩ := P
  have := bg_4 p6 p8 m.2.1 (Nat.le_refl _)
  omega
