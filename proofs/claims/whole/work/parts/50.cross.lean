/-! crossings: the steps that end at one -/
def crB (r c : Nat) (k : Nat → Nat) (p : Nat) : Bool := inn r c p && decide (k p % 3 = 0)
theorem crB_iff {r c p : Nat} {k : Nat → Nat} : crB r c k p = true ↔ inn r c p = true ∧ k p % 3 = 0 := by simp [crB]
theorem crB_inn {r c p : Nat} {k : Nat → Nat} (h : crB r c k p = true) : inn r c p = true := (crB_iff.mp h).1
/-- the cells above and below a point, on the falling or the rising strand, gone down -/
def upC (p : Nat) (d : Bool) : S3 := (p / 13 - 1, if d = true then p % 13 - 1 else p % 13, true)
def loC (p : Nat) (d : Bool) : S3 := (p / 13, if d = true then p % 13 else p % 13 - 1, true)
def stP (m : MS) (p : Nat) (d : Bool) (t : Nat) : Prop := t < m.1 ∧ eY (m.2.2.2.1 t) = p / 13 ∧ eX (m.2.2.2.1 t) = p % 13 ∧ flB (m.2.2.2.1 t).1 (m.2.2.2.1 t).2.1 = d
theorem bg_mono {lp : Nat} {bg : Nat → Nat} (h : ∀ l, l < lp → bg l + 4 ≤ bg (l + 1)) : ∀ {l l' : Nat}, l ≤ l' → l' ≤ lp → bg l ≤ bg l' := by
  intro l l' h1 h2
  obtain ⟨d, rfl⟩ : ∃ d, l' = l + d := ⟨l' - l, by omega⟩
  clear h1
  induction d with
  | zero => exact Nat.le_refl _
  | succ d ih =>
    have h1 := ih (by omega)
    have h3 := h (l + d) (by omega)
    show bg l ≤ bg (l + d + 1)
    omega
/-- whose a step is, by where loops begin -/
theorem own_of {r c : Nat} {k : Nat → Nat} {m : MS} (P : PM r c k m.1 m) {t l : Nat} (hl : l < m.2.1) (h1 : m.2.2.2.2 l ≤ t) (h2 : t < m.2.2.2.2 (l + 1)) : t < m.1 ∧ m.2.2.1 (ceN (m.2.2.2.1 t)) = l + 1 := by
  obtain ⟨p0, p1, p2, p3, p4, p5, p6, p7, p8, p9, pA, pB⟩ := P
  have h3 := bg_mono p8 (show l + 1 ≤ m.2.1 by omega) (Nat.le_refl _)
  rw [p7] at h3
  have ht : t < m.1 := by omega
  refine ⟨ht, ?_⟩
  obtain ⟨l', h4, h5, h6, h7⟩ := p4 t ht
  have : l' = l := by
    rcases Nat.lt_trichotomy l l' with q | q | q
    · have := bg_mono p8 (show l + 1 ≤ l' by omega) (by omega)
      omega
    · exact q.symm
    · have := bg_mono p8 (show l' + 1 ≤ l by omega) (by omega)
      omega
  rw [h5, this]
theorem bg_of {r c : Nat} {k : Nat → Nat} {m : MS} (P : PM r c k m.1 m) {t : Nat} (ht : t < m.1) : ∃ l, l < m.2.1 ∧ m.2.2.1 (ceN (m.2.2.2.1 t)) = l + 1 ∧ m.2.2.2.2 l ≤ t ∧ t < m.2.2.2.2 (l + 1) := by
  obtain ⟨p0, p1, p2, p3, p4, -⟩ := P
  exact p4 t ht
/-- the step behind a step, round the loop -/
def aft (m : MS) (t : Nat) : Nat := if t + 1 < m.2.2.2.2 (m.2.2.1 (ceN (m.2.2.2.1 t))) then t + 1 else m.2.2.2.2 (m.2.2.1 (ceN (m.2.2.2.1 t)) - 1)
theorem aft_ok {r c : Nat} {k : Nat → Nat} {m : MS} (P : PM r c k m.1 m) {t : Nat} (ht : t < m.1) : aft m t < m.1 ∧ m.2.2.1 (ceN (m.2.2.2.1 (aft m t))) = m.2.2.1 (ceN (m.2.2.2.1 t)) ∧ nx r c k (m.2.2.2.1 t) = m.2.2.2.1 (aft m t) := by
  obtain ⟨l, h1, h2, h3, h4⟩ := bg_of P ht
  have e : aft m t = if t + 1 < m.2.2.2.2 (l + 1) then t + 1 else m.2.2.2.2 l := by
    unfold aft
    rw [h2]; rfl
  have h5 := P.2.2.2.2.2.2.2.2.2.1 t ht l h2
  rw [← e] at h5
  have h6 := P.2.2.2.2.2.2.2.2.1 l h1
  have h7 : m.2.2.2.2 l ≤ aft m t ∧ aft m t < m.2.2.2.2 (l + 1) := by
    rw [e]
    split <;> omega
  have h8 := own_of P h1 h7.1 h7.2
  exact ⟨h8.1, by rw [h8.2, h2], h5⟩
theorem upC_end {y x : Nat} {p : Nat} (hy : p / 13 = y) (hx : p % 13 = x) (h1 : 1 ≤ y) (h2 : 1 ≤ x) (h3 : (y + x) % 2 = 1) (d : Bool) : eY (upC p d) = y ∧ eX (upC p d) = x ∧ flB (upC p d).1 (upC p d).2.1 = d ∧ rtB (upC p d) = d := by
  unfold upC eY eX rtB flB
  rw [hy, hx]
  have q1 : (y - 1 + (x - 1)) % 2 = 1 := by omega
  have q2 : (y - 1 + x) % 2 = 0 := by omega
  cases d <;> simp [q1, q2] <;> omega
theorem loC_end {y x : Nat} {p : Nat} (hy : p / 13 = y) (hx : p % 13 = x) (h2 : 1 ≤ x) (h3 : (y + x) % 2 = 1) (d : Bool) : eY (rv (loC p d)) = y ∧ eX (rv (loC p d)) = x ∧ flB (rv (loC p d)).1 (rv (loC p d)).2.1 = d := by
  unfold loC rv eY eX rtB flB
  rw [hy, hx]
  have q2 : (y + (x - 1)) % 2 = 0 := by omega
  cases d <;> simp [h3, q2] <;> omega
theorem st_cases {y x : Nat} {p : Nat} (hy : p / 13 = y) (hx : p % 13 = x) {s : S3} {d : Bool} (e1 : eY s = y) (e2 : eX s = x) (e3 : flB s.1 s.2.1 = d) : s = upC p d ∨ s = rv (loC p d) := by
  obtain ⟨a, b, dn⟩ := s
  unfold upC loC rv
  unfold eY at e1
  unfold eX rtB at e2
  dsimp only at e1 e2 e3
  rw [e3] at e2
  rw [hy, hx]
  cases dn <;> cases d <;> simp at e1 e2 ⊢ <;> omega
theorem nx_up {r c p : Nat} {k : Nat → Nat} (hp : crB r c k p = true) (d : Bool) : nx r c k (upC p d) = loC p d := by
  obtain ⟨h1, h2⟩ := crB_iff.mp hp
  obtain ⟨g1, g2, g3, g4, g5⟩ := inn_iff.mp h1
  obtain ⟨e1, e2, -, e4⟩ := upC_end rfl rfl g1 g3 g5 d
  unfold nx
  rw [e1, e2]
  have hk : kdr r c k (p / 13) (p % 13) = k p := by
    unfold kdr
    rw [if_neg (by omega), if_neg (by omega), show 13 * (p / 13) + p % 13 = p by omega]
  rw [hk]
  unfold nxK
  rw [if_neg (show ¬ k p = 1 by omega), if_neg (show ¬ k p = 2 by omega), if_neg (show ¬ k p = 1 by omega), e4]
  unfold upC loC
  cases d <;> simp <;> omega
theorem upC_in {r c p : Nat} (h : inn r c p = true) (d : Bool) : inG r c (upC p d) ∧ inG r c (loC p d) := by
  obtain ⟨g1, g2, g3, g4, g5⟩ := inn_iff.mp h
  unfold inG upC loC
  cases d <;> simp <;> omega
/-- a crossing's strand: one step alone ends there; the cell above belongs to the same loop, gone along the same way -/
theorem cross_ok {r c : Nat} {k : Nat → Nat} (hR : RC r c) {p : Nat} (hp : crB r c k p = true) (d : Bool) : ∃ t, stP (LY r c k) p d t ∧ (∀ t', stP (LY r c k) p d t' → t' = t) ∧ (LY r c k).2.2.1 (ceN (upC p d)) = (LY r c k).2.2.1 (ceN ((LY r c k).2.2.2.1 t)) ∧ ∃ tu, tu < (LY r c k).1 ∧ ceN ((LY r c k).2.2.2.1 tu) = ceN (upC p d) ∧ ((LY r c k).2.2.2.1 tu).2.2 = ((LY r c k).2.2.2.1 t).2.2 := by
  obtain ⟨r1, r2, r3, r4⟩ := hR
  obtain ⟨P, hall⟩ := LY_ok (r := r) (c := c) k r2 r4
  generalize LY r c k = m at P hall ⊢
  obtain ⟨g1, g2, g3, g4, g5⟩ := inn_iff.mp (crB_inn hp)
  obtain ⟨u1, u2, u3, u4⟩ := upC_end rfl rfl g1 g3 g5 d
  obtain ⟨v1, v2, v3⟩ := loC_end rfl rfl g3 g5 d
  obtain ⟨i1, i2⟩ := upC_in (crB_inn hp) d
  have hne : m.2.2.1 (ceN (upC p d)) ≠ 0 := hall _ _ i1.1 i1.2
  obtain ⟨p0, p1, p2, p3, p4, p5, p6, p7, p8, p9, pA, pB⟩ := id P
  obtain ⟨tu, htu, hce⟩ := p3 _ hne
  obtain ⟨c1, c2⟩ := ceN_inj r4 (p1 tu htu) i1 hce
  rcases same_cell c1 c2 with hu | hu
  · -- gone down
    refine ⟨tu, ⟨htu, by rw [hu]; exact u1, by rw [hu]; exact u2, by rw [hu]; exact u3⟩, fun t' ht' => ?_, by rw [hu], tu, htu, hce, rfl⟩
    obtain ⟨q1, q2, q3, q4⟩ := ht'
    rcases st_cases rfl rfl q2 q3 q4 with h | h
    · exact p2 _ _ q1 htu (by rw [h, hu])
    · exfalso
      obtain ⟨a1, a2, a3⟩ := aft_ok P q1
      have h5 := nx_back (k := k) i1
      rw [nx_up hp d, ← h, a3] at h5
      have h6 := p2 _ _ a1 htu (by rw [h5, hu]; rfl)
      rw [h6, hu] at h5
      exact rv_ne _ h5.symm
  · -- gone up
    obtain ⟨t', ht', hn⟩ := pA tu htu
    have h5 := nx_back (k := k) (p1 t' ht')
    rw [hn, hu, rv_rv, nx_up hp d] at h5
    have h6 : m.2.2.2.1 t' = rv (loC p d) := by rw [h5, rv_rv]
    obtain ⟨a1, a2, a3⟩ := aft_ok P ht'
    have h7 : aft m t' = tu := p2 _ _ a1 htu (by rw [← a3, hn])
    rw [h7] at a2
    refine ⟨t', ⟨ht', by rw [h6]; exact v1, by rw [h6]; exact v2, by rw [h6]; exact v3⟩, fun t2 ht2 => ?_, by rw [← hce]; exact a2, tu, htu, hce, by rw [hu, h6]; rfl⟩
    obtain ⟨q1, q2, q3, q4⟩ := ht2
    rcases st_cases rfl rfl q2 q3 q4 with h | h
    · exfalso
      have h8 := p2 _ _ q1 htu (by rw [h, hce])
      rw [h8, hu] at h
      exact rv_ne _ h
    · exact p2 _ _ q1 ht' (by rw [h, h6])
/-- the step that ends at a crossing along a strand -/
noncomputable def stD (m : MS) (p : Nat) (d : Bool) : Nat := Classical.epsilon (fun t => stP m p d t)
theorem stD_ok {r c : Nat} {k : Nat → Nat} (hR : RC r c) {p : Nat} (hp : crB r c k p = true) (d : Bool) : stP (LY r c k) p d (stD (LY r c k) p d) ∧ (∀ t, stP (LY r c k) p d t → t = stD (LY r c k) p d) ∧ (LY r c k).2.2.1 (ceN (upC p d)) = (LY r c k).2.2.1 (ceN ((LY r c k).2.2.2.1 (stD (LY r c k) p d))) ∧ ∃ tu, tu < (LY r c k).1 ∧ ceN ((LY r c k).2.2.2.1 tu) = ceN (upC p d) ∧ ((LY r c k).2.2.2.1 tu).2.2 = ((LY r c k).2.2.2.1 (stD (LY r c k) p d)).2.2 := by
  obtain ⟨t, h1, h2, h3, h4⟩ := cross_ok hR hp d
  have h5 : stP (LY r c k) p d (stD (LY r c k) p d) := Classical.epsilon_spec (p := fun t => stP (LY r c k) p d t) ⟨t, h1⟩
  have h6 := h2 _ h5
  rw [h6]
  exact ⟨h1, h2, h3, h4⟩
/-- whose a strand is at a crossing; does it go down there -/
noncomputable def lpD (m : MS) (p : Nat) (d : Bool) : Nat := m.2.2.1 (ceN (m.2.2.2.1 (stD m p d))) - 1
noncomputable def dnD (m : MS) (p : Nat) (d : Bool) : Bool := (m.2.2.2.1 (stD m p d)).2.2
/-- is the falling strand over -/
def ovD (k : Nat → Nat) (p : Nat) : Bool := decide (p / 13 % 2 = 1) != decide (k p = 3)
/-- where a step ends; how it goes on: 0 bends, 1 over, 2 under -/
def enP (s : S3) : Nat := 13 * eY s + eX s
def psS (r c : Nat) (k : Nat → Nat) (s : S3) : Nat := if crB r c k (enP s) = true then (if flB s.1 s.2.1 = ovD k (enP s) then 1 else 2) else 0
def psT (r c : Nat) (k : Nat → Nat) (m : MS) (t : Nat) : Nat := psS r c k (m.2.2.2.1 t)
theorem en_lt {r c : Nat} (hR : RC r c) {s : S3} (h : inG r c s) : eY s < 13 ∧ eX s < 13 ∧ enP s < 169 ∧ enP s / 13 = eY s ∧ enP s % 13 = eX s := by
  obtain ⟨r1, r2, r3, r4⟩ := hR
  have h1 := h.1
  have h2 := h.2
  have h3 : eY s < 13 := by unfold eY; split <;> omega
  have h4 : eX s < 13 := by unfold eX; split <;> omega
  unfold enP
  omega
theorem psT_st {r c : Nat} {k : Nat → Nat} (hR : RC r c) {t : Nat} (ht : t < (LY r c k).1) : (crB r c k (enP ((LY r c k).2.2.2.1 t)) = true ∧ ∃ d, stP (LY r c k) (enP ((LY r c k).2.2.2.1 t)) d t ∧ t = stD (LY r c k) (enP ((LY r c k).2.2.2.1 t)) d ∧ psT r c k (LY r c k) t = if d = ovD k (enP ((LY r c k).2.2.2.1 t)) then 1 else 2) ∨ (crB r c k (enP ((LY r c k).2.2.2.1 t)) = false ∧ psT r c k (LY r c k) t = 0) := by
  have P := (LY_ok (r := r) (c := c) k hR.2.1 hR.2.2.2).1
  have hG : inG r c ((LY r c k).2.2.2.1 t) := P.2.1 t ht
  obtain ⟨e1, e2, e3, e4, e5⟩ := en_lt hR hG
  cases q : crB r c k (enP ((LY r c k).2.2.2.1 t)) with
  | false => exact Or.inr ⟨rfl, by unfold psT psS; rw [q]; rfl⟩
  | true =>
    have h1 : stP (LY r c k) (enP ((LY r c k).2.2.2.1 t)) (flB ((LY r c k).2.2.2.1 t).1 ((LY r c k).2.2.2.1 t).2.1) t := ⟨ht, e4.symm, e5.symm, rfl⟩
    exact Or.inl ⟨rfl, _, h1, (stD_ok hR q _).2.1 t h1, by unfold psT psS; rw [if_pos q]⟩
theorem stD_ps {r c : Nat} {k : Nat → Nat} (hR : RC r c) {p : Nat} (hp : crB r c k p = true) (d : Bool) : stD (LY r c k) p d < (LY r c k).1 ∧ enP ((LY r c k).2.2.2.1 (stD (LY r c k) p d)) = p ∧ psT r c k (LY r c k) (stD (LY r c k) p d) = (if d = ovD k p then 1 else 2) := by
  obtain ⟨⟨h1, h2, h3, h4⟩, -⟩ := stD_ok hR hp d
  have e : enP ((LY r c k).2.2.2.1 (stD (LY r c k) p d)) = p := by unfold enP; rw [h2, h3]; omega
  refine ⟨h1, e, ?_⟩
  unfold psT psS
  rw [e, if_pos hp, h4]
