/-! all loops, one behind the other -/
theorem ceN_inj {r c : Nat} (hc : c ≤ 6) {a b : S3} (ha : inG r c a) (hb : inG r c b) (h : ceN a = ceN b) : a.1 = b.1 ∧ a.2.1 = b.2.1 := by
  have h1 := ha.2
  have h2 := hb.2
  unfold ceN at h
  omega
theorem nx_inj {r c : Nat} {k : Nat → Nat} {a b : S3} (ha : inG r c a) (hb : inG r c b) (h : nx r c k a = nx r c k b) : a = b := by
  have h1 := nx_back (k := k) ha
  have h2 := nx_back (k := k) hb
  rw [h] at h1
  have h3 : rv a = rv b := h1.symm.trans h2
  rw [← rv_rv a, h3, rv_rv]
theorem same_cell {a b : S3} (h1 : a.1 = b.1) (h2 : a.2.1 = b.2.1) : a = b ∨ a = rv b := by
  obtain ⟨x, y, d⟩ := a
  obtain ⟨x', y', d'⟩ := b
  dsimp only at h1 h2
  subst h1; subst h2
  cases d <;> cases d' <;> simp [rv]
theorem rv_ne (s : S3) : rv s ≠ s := by
  obtain ⟨a, b, d⟩ := s
  cases d <;> simp [rv]
/-- what a step does to place and directions -/
theorem nx_disp {r c : Nat} {k : Nat → Nat} {s : S3} (h : inG r c s) : ∃ kk : Nat, ((nx r c k s).1 : Int) = s.1 + (if kk = 1 then 0 else if s.2.2 = true then 1 else -1) ∧ ((nx r c k s).2.1 : Int) = s.2.1 + (if kk = 2 then 0 else if rtB s = true then 1 else -1) ∧ (nx r c k s).2.2 = (if kk = 1 then !s.2.2 else s.2.2) ∧ rtB (nx r c k s) = (if kk = 2 then !rtB s else rtB s) := by
  have ho := e_odd s
  obtain ⟨a, b, d⟩ := s
  obtain ⟨h1, h2⟩ := h
  dsimp only at h1 h2
  refine ⟨kdr r c k (eY (a, b, d)) (eX (a, b, d)), ?_⟩
  show ((nxK (kdr r c k (eY (a, b, d)) (eX (a, b, d))) (a, b, d)).1 : Int) = _ ∧ ((nxK (kdr r c k (eY (a, b, d)) (eX (a, b, d))) (a, b, d)).2.1 : Int) = _ ∧ (nxK (kdr r c k (eY (a, b, d)) (eX (a, b, d))) (a, b, d)).2.2 = _ ∧ rtB (nxK (kdr r c k (eY (a, b, d)) (eX (a, b, d))) (a, b, d)) = _
  generalize hkk : kdr r c k (eY (a, b, d)) (eX (a, b, d)) = kk
  have hy1 : eY (a, b, d) = 0 → kk = 1 := by
    intro q
    rw [← hkk, q, kdr_y0]
  have hx1 : eX (a, b, d) = 0 → kk = 2 := by
    intro q
    have hn : ¬ (eY (a, b, d) = 0 ∨ eY (a, b, d) = 2 * r) := by omega
    rw [← hkk]
    unfold kdr
    rw [if_neg hn, if_pos (Or.inl q)]
  unfold nxK eY eX rtB flB at *
  dsimp only at *
  by_cases q1 : kk = 1 <;> by_cases q2 : kk = 2 <;> by_cases hp : (a + b) % 2 = 1 <;> cases d <;> simp [q1, q2, hp] at hy1 hx1 ho ⊢ <;> first | omega | (refine ⟨?_, ?_, ?_⟩ <;> omega) | (refine ⟨?_, ?_⟩ <;> omega) | skip
theorem no2 {r c : Nat} {k : Nat → Nat} {s : S3} (h : inG r c s) (e : nx r c k (nx r c k s) = s) : False := by
  obtain ⟨k1, a1, a2, a3, a4⟩ := nx_disp (k := k) h
  obtain ⟨k2, b1, b2, b3, b4⟩ := nx_disp (k := k) (nx_in (k := k) h)
  rw [e] at b1 b2
  rw [a3] at b1
  rw [a4] at b2
  generalize hd : s.2.2 = d at *
  generalize hr : rtB s = q at *
  by_cases x1 : k1 = 1 <;> by_cases x2 : k1 = 2 <;> by_cases x3 : k2 = 1 <;> by_cases x4 : k2 = 2 <;> cases d <;> cases q <;> simp [x1, x2, x3, x4] at a1 a2 b1 b2 <;> omega
theorem no3 {r c : Nat} {k : Nat → Nat} {s : S3} (h : inG r c s) (e : nx r c k (nx r c k (nx r c k s)) = s) : False := by
  obtain ⟨k1, a1, a2, a3, a4⟩ := nx_disp (k := k) h
  obtain ⟨k2, b1, b2, b3, b4⟩ := nx_disp (k := k) (nx_in (k := k) h)
  obtain ⟨k3, c1, c2, c3, c4⟩ := nx_disp (k := k) (nx_in (k := k) (nx_in (k := k) h))
  rw [e] at c1 c2
  rw [b3, a3] at c1
  rw [b4, a4] at c2
  rw [a3] at b1
  rw [a4] at b2
  generalize hd : s.2.2 = d at *
  generalize hr : rtB s = q at *
  by_cases x1 : k1 = 1 <;> by_cases x2 : k1 = 2 <;> by_cases x3 : k2 = 1 <;> by_cases x4 : k2 = 2 <;> by_cases x5 : k3 = 1 <;> by_cases x6 : k3 = 2 <;> cases d <;> cases q <;> simp [x1, x2, x3, x4, x5, x6] at a1 a2 b1 b2 c1 c2 <;> omega
/-- what holds while loop lp, begun at step n0, is gone along -/
def PInv (r c : Nat) (k : Nat → Nat) (n0 n lp : Nat) (own : Nat → Nat) (sq : Nat → S3) (bg : Nat → Nat) : Prop :=
  n0 ≤ n ∧ (∀ t, t < n → inG r c (sq t)) ∧ (∀ t t', t < n → t' < n → ceN (sq t) = ceN (sq t') → t = t') ∧ (∀ i, own i ≠ 0 → ∃ t, t < n ∧ ceN (sq t) = i) ∧
  (∀ t, t < n0 → ∃ l, l < lp ∧ own (ceN (sq t)) = l + 1 ∧ bg l ≤ t ∧ t < bg (l + 1)) ∧ (∀ t, n0 ≤ t → t < n → own (ceN (sq t)) = lp + 1) ∧
  bg 0 = 0 ∧ bg lp = n0 ∧ (∀ l, l < lp → bg l + 4 ≤ bg (l + 1)) ∧
  (∀ t, t < n0 → ∀ l, own (ceN (sq t)) = l + 1 → nx r c k (sq t) = sq (if t + 1 < bg (l + 1) then t + 1 else bg l)) ∧
  (∀ t, t < n0 → ∃ t', t' < n0 ∧ nx r c k (sq t') = sq t) ∧ (∀ t, n0 ≤ t → t + 1 < n → nx r c k (sq t) = sq (t + 1))
theorem bg_le {lp : Nat} {bg : Nat → Nat} (h : ∀ l, l < lp → bg l + 4 ≤ bg (l + 1)) : ∀ l, l ≤ lp → bg l ≤ bg lp := by
  intro l hl
  obtain ⟨d, rfl⟩ : ∃ d, lp = l + d := ⟨lp - l, by omega⟩
  clear hl
  induction d with
  | zero => exact Nat.le_refl _
  | succ d ih =>
    have h1 := ih (fun j hj => h j (by omega))
    have h2 := h (l + d) (by omega)
    show bg l ≤ bg (l + d + 1)
    omega
theorem bg_4 {lp : Nat} {bg : Nat → Nat} (h0 : bg 0 = 0) (h : ∀ l, l < lp → bg l + 4 ≤ bg (l + 1)) : ∀ l, l ≤ lp → 4 * l ≤ bg l := by
  intro l
  induction l with
  | zero => intro _; omega
  | succ l ih =>
    intro hl
    have h1 := ih (by omega)
    have h2 := h l (by omega)
    omega
/-- no more steps than cells; none is left when there are 144 -/
theorem P_room {r c : Nat} {k : Nat → Nat} {n0 n lp : Nat} {own : Nat → Nat} {sq : Nat → S3} {bg : Nat → Nat} (hr : r ≤ 6) (hc : c ≤ 6) (P : PInv r c k n0 n lp own sq bg) : n ≤ 144 := by
  obtain ⟨-, p1, p2, -⟩ := P
  refine fb_holes 144 n (fun t => ceN (sq t)) (fun t ht => ?_) (fun i j hij hj e => ?_)
  · have := p1 t ht
    have h1 := this.1
    have h2 := this.2
    show ceN (sq t) < 144
    unfold ceN
    omega
  · have := p2 i j (by omega) hj e
    omega
theorem P_room1 {r c : Nat} {k : Nat → Nat} {n0 n lp : Nat} {own : Nat → Nat} {sq : Nat → S3} {bg : Nat → Nat} (hr : r ≤ 6) (hc : c ≤ 6) (P : PInv r c k n0 n lp own sq bg) {s : S3} (hs : inG r c s) (hf : own (ceN s) = 0) : n < 144 := by
  obtain ⟨p0, p1, p2, p3, p4, p5, -⟩ := P
  have hne : ∀ t, t < n → ceN (sq t) ≠ ceN s := by
    intro t ht e
    rcases Nat.lt_or_ge t n0 with h | h
    · obtain ⟨l, -, h2, -⟩ := p4 t h
      rw [e, hf] at h2
      omega
    · have h2 := p5 t h ht
      rw [e, hf] at h2
      omega
  have h := fb_holes 144 (n + 1) (fun t => if t < n then ceN (sq t) else ceN s) (fun t ht => ?_) (fun i j hij hj e => ?_)
  · omega
  · by_cases q : t < n
    · rw [if_pos q]
      have := p1 t q
      have h1 := this.1
      have h2 := this.2
      unfold ceN
      omega
    · rw [if_neg q]
      have h1 := hs.1
      have h2 := hs.2
      unfold ceN
      omega
  · rw [if_pos (by omega)] at e
    by_cases q : j < n
    · rw [if_pos q] at e
      have := p2 i j (by omega) q e
      omega
    · rw [if_neg q] at e
      exact hne i (by omega) e
/-- a strand that comes to a cell that is gone along already has come to the loop's own begin -/
theorem P_close {r c : Nat} {k : Nat → Nat} {n0 n lp : Nat} {own : Nat → Nat} {sq : Nat → S3} {bg : Nat → Nat} (hc : c ≤ 6) (P : PInv r c k n0 n lp own sq bg) (hn : n0 < n) {s : S3} (hs : s = nx r c k (sq (n - 1))) (hm : own (ceN s) ≠ 0) : s = sq n0 := by
  obtain ⟨p0, p1, p2, p3, p4, p5, p6, p7, p8, p9, pA, pB⟩ := P
  obtain ⟨t, ht, e⟩ := p3 _ hm
  have hprev := p1 (n - 1) (by omega)
  have hsG : inG r c s := by rw [hs]; exact nx_in hprev
  obtain ⟨e1, e2⟩ := ceN_inj hc (p1 t ht) hsG e
  have hmono := bg_le p8
  rcases same_cell e1.symm e2.symm with q | q
  · -- the same way
    rcases Nat.lt_or_ge t n0 with h | h
    · obtain ⟨t', h1, h2⟩ := pA t h
      have h3 := nx_inj (p1 t' (by omega)) hprev (by rw [h2, ← q, hs])
      have h4 := p2 t' (n - 1) (by omega) (by omega) (by rw [h3])
      omega
    · rcases Nat.eq_or_lt_of_le h with h1 | h1
      · rw [q, h1]
      · have h2 := pB (t - 1) (by omega) (by omega)
        rw [show t - 1 + 1 = t by omega] at h2
        have h3 := nx_inj (p1 (t - 1) (by omega)) hprev (by rw [h2, ← q, hs])
        have h4 := p2 (t - 1) (n - 1) (by omega) (by omega) (by rw [h3])
        omega
  · -- the other way: impossible
    exfalso
    have hb : nx r c k (sq t) = rv (sq (n - 1)) := by
      have h1 := nx_back (k := k) hprev
      rw [← hs, q, rv_rv] at h1
      exact h1
    rcases Nat.lt_or_ge t n0 with h | h
    · obtain ⟨l, hl, ho, h1, h2⟩ := p4 t h
      have h3 := p9 t h l ho
      rw [hb] at h3
      have hle := hmono (l + 1) (by omega)
      rw [p7] at hle
      have h4 : (if t + 1 < bg (l + 1) then t + 1 else bg l) < n0 := by
        split <;> omega
      have h5 := p2 _ (n - 1) (Nat.lt_of_lt_of_le h4 p0) (by omega) (by rw [← h3]; rfl)
      omega
    · rcases Nat.lt_or_ge (t + 1) n with h1 | h1
      · have h2 := pB t h h1
        rw [hb] at h2
        have h3 := p2 (t + 1) (n - 1) h1 (by omega) (by rw [← h2]; rfl)
        rw [h3] at h2
        exact rv_ne _ h2
      · have h2 : t = n - 1 := by omega
        rw [h2] at q
        have h3 := nx_ne (k := k) hprev
        rw [← hs, q] at h3
        exact h3 ⟨rfl, rfl⟩
/-- a loop is at least four cells long -/
theorem P_four {r c : Nat} {k : Nat → Nat} {n0 n lp : Nat} {own : Nat → Nat} {sq : Nat → S3} {bg : Nat → Nat} (P : PInv r c k n0 n lp own sq bg) (hn : n0 < n) (hs : nx r c k (sq (n - 1)) = sq n0) : n0 + 4 ≤ n := by
  obtain ⟨p0, p1, p2, p3, p4, p5, p6, p7, p8, p9, pA, pB⟩ := P
  rcases Nat.lt_or_ge n (n0 + 4) with h | h
  · exfalso
    have hG := p1 n0 hn
    rcases (show n = n0 + 1 ∨ n = n0 + 2 ∨ n = n0 + 3 by omega) with q | q | q
    · subst q
      rw [show n0 + 1 - 1 = n0 by omega] at hs
      have := nx_ne (k := k) hG
      rw [hs] at this
      exact this ⟨rfl, rfl⟩
    · subst q
      rw [show n0 + 2 - 1 = n0 + 1 by omega, ← pB n0 (Nat.le_refl _) (by omega)] at hs
      exact no2 hG hs
    · subst q
      rw [show n0 + 3 - 1 = n0 + 1 + 1 by omega, ← pB (n0 + 1) (by omega) (by omega), ← pB n0 (Nat.le_refl _) (by omega)] at hs
      exact no3 hG hs
  · exact h
def ownU (own : Nat → Nat) (s : S3) (v : Nat) : Nat → Nat := fun i => if i = ceN s then v else own i
def sqU (sq : Nat → S3) (n : Nat) (s : S3) : Nat → S3 := fun t => if t = n then s else sq t
/-- one step more -/
theorem P_step {r c : Nat} {k : Nat → Nat} {n0 n lp : Nat} {own : Nat → Nat} {sq : Nat → S3} {bg : Nat → Nat} (P : PInv r c k n0 n lp own sq bg) {s : S3} (hs : inG r c s) (hf : own (ceN s) = 0) (hp : n0 < n → s = nx r c k (sq (n - 1))) : PInv r c k n0 (n + 1) lp (ownU own s (lp + 1)) (sqU sq n s) bg := by
  obtain ⟨p0, p1, p2, p3, p4, p5, p6, p7, p8, p9, pA, pB⟩ := P
  have hne : ∀ t, t < n → ceN (sq t) ≠ ceN s := by
    intro t ht e
    rcases Nat.lt_or_ge t n0 with h | h
    · obtain ⟨l, -, h2, -⟩ := p4 t h
      rw [e, hf] at h2
      omega
    · have h2 := p5 t h ht
      rw [e, hf] at h2
      omega
  have o1 : ∀ t, t < n → sqU sq n s t = sq t := fun t ht => if_neg (by omega)
  have o2 : sqU sq n s n = s := if_pos rfl
  have o3 : ∀ t, t < n → ownU own s (lp + 1) (ceN (sq t)) = own (ceN (sq t)) := fun t ht => if_neg (hne t ht)
  have o4 : ownU own s (lp + 1) (ceN s) = lp + 1 := if_pos rfl
  refine ⟨by omega, fun t ht => ?_, fun t t' ht ht' e => ?_, fun i hi => ?_, fun t ht => ?_, fun t h1 ht => ?_, p6, p7, p8, fun t ht l hl => ?_, fun t ht => ?_, fun t h1 ht => ?_⟩
  · rcases Nat.lt_or_ge t n with h | h
    · rw [o1 t h]; exact p1 t h
    · rw [show t = n by omega, o2]; exact hs
  · rcases Nat.lt_or_ge t n with h | h <;> rcases Nat.lt_or_ge t' n with h' | h'
    · rw [o1 t h, o1 t' h'] at e; exact p2 t t' h h' e
    · rw [o1 t h, show t' = n by omega, o2] at e; exact absurd e (hne t h)
    · rw [o1 t' h', show t = n by omega, o2] at e; exact absurd e.symm (hne t' h')
    · omega
  · by_cases q : i = ceN s
    · exact ⟨n, by omega, by rw [o2, q]⟩
    · have : ownU own s (lp + 1) i = own i := if_neg q
      rw [this] at hi
      obtain ⟨t, h1, h2⟩ := p3 i hi
      exact ⟨t, by omega, by rw [o1 t h1]; exact h2⟩
  · obtain ⟨l, h1, h2, h3, h4⟩ := p4 t ht
    exact ⟨l, h1, by rw [o1 t (by omega), o3 t (by omega)]; exact h2, h3, h4⟩
  · rcases Nat.lt_or_ge t n with h | h
    · rw [o1 t h, o3 t h]; exact p5 t h1 h
    · rw [show t = n by omega, o2]; exact o4
  · rw [o1 t (by omega), o3 t (by omega)] at hl
    rw [o1 t (by omega), p9 t ht l hl]
    obtain ⟨l', h1, h2, h3, h4⟩ := p4 t ht
    have : l' = l := by omega
    subst this
    have hle := bg_le p8 (l' + 1) (by omega)
    rw [p7] at hle
    have h6 : (if t + 1 < bg (l' + 1) then t + 1 else bg l') < n0 := by
      split <;> omega
    rw [o1 _ (by omega)]
  · obtain ⟨t', h1, h2⟩ := pA t ht
    exact ⟨t', h1, by rw [o1 t' (by omega), o1 t (by omega)]; exact h2⟩
  · rcases Nat.lt_or_ge (t + 1) n with h | h
    · rw [o1 t (by omega), o1 (t + 1) h]; exact pB t h1 h
    · have h2 : t + 1 = n := by omega
      rw [h2, o2, o1 t (by omega)]
      have h3 := hp (by omega)
      rw [h3, show n - 1 = t by omega]
def bgU (bg : Nat → Nat) (l n : Nat) : Nat → Nat := fun j => if j = l then n else bg j
/-- the loop is closed: the next one may begin -/
theorem P_end {r c : Nat} {k : Nat → Nat} {n0 n lp : Nat} {own : Nat → Nat} {sq : Nat → S3} {bg : Nat → Nat} (P : PInv r c k n0 n lp own sq bg) (hn : n0 < n) (hs : nx r c k (sq (n - 1)) = sq n0) : PInv r c k n n (lp + 1) own sq (bgU bg (lp + 1) n) := by
  have h4 := P_four P hn hs
  obtain ⟨p0, p1, p2, p3, p4, p5, p6, p7, p8, p9, pA, pB⟩ := P
  have b1 : ∀ l, l ≤ lp → bgU bg (lp + 1) n l = bg l := fun l hl => if_neg (by omega)
  have b2 : bgU bg (lp + 1) n (lp + 1) = n := if_pos rfl
  refine ⟨Nat.le_refl _, p1, p2, p3, fun t ht => ?_, fun t h1 h2 => by omega, by rw [b1 0 (by omega)]; exact p6, b2, fun l hl => ?_, fun t ht l hl => ?_, fun t ht => ?_, fun t h1 h2 => by omega⟩
  · rcases Nat.lt_or_ge t n0 with h | h
    · obtain ⟨l, h1, h2, h3, h5⟩ := p4 t h
      exact ⟨l, by omega, h2, by rw [b1 l (by omega)]; exact h3, by rw [b1 (l + 1) (by omega)]; exact h5⟩
    · exact ⟨lp, by omega, p5 t h ht, by rw [b1 lp (by omega), p7]; exact h, by rw [b2]; exact ht⟩
  · rcases Nat.lt_or_ge l lp with h | h
    · rw [b1 l (by omega), b1 (l + 1) (by omega)]; exact p8 l h
    · rw [show l = lp by omega, b1 lp (by omega), b2, p7]; exact h4
  · rcases Nat.lt_or_ge t n0 with h | h
    · obtain ⟨l', h1, h2, h3, h5⟩ := p4 t h
      have : l' = l := by omega
      subst this
      rw [b1 l' (by omega), b1 (l' + 1) (by omega)]
      exact p9 t h l' hl
    · have h1 := p5 t h ht
      have : l = lp := by omega
      subst this
      rw [b1 l (by omega), b2, p7]
      rcases Nat.lt_or_ge (t + 1) n with h2 | h2
      · rw [if_pos h2]; exact pB t h h2
      · rw [if_neg (by omega)]
        rw [show t = n - 1 by omega]
        exact hs
  · rcases Nat.lt_or_ge t n0 with h | h
    · obtain ⟨t', h1, h2⟩ := pA t h
      exact ⟨t', by omega, h2⟩
    · rcases Nat.eq_or_lt_of_le h with h1 | h1
      · exact ⟨n - 1, by omega, by rw [← h1]; exact hs⟩
      · exact ⟨t - 1, by omega, by rw [pB (t - 1) (by omega) (by omega), show t - 1 + 1 = t by omega]⟩
