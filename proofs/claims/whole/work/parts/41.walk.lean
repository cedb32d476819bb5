/-! the strands: one step along, back again; all loops of a plait of r by c squares with kinds k (by place 13 y + x) -/
abbrev S3 : Type := Nat × Nat × Bool
def flB (row col : Nat) : Bool := decide ((row + col) % 2 = 1)
/-- does it go to the right -/
def rtB (s : S3) : Bool := flB s.1 s.2.1 == s.2.2
def eY (s : S3) : Nat := if s.2.2 = true then s.1 + 1 else s.1
def eX (s : S3) : Nat := if rtB s = true then s.2.1 + 1 else s.2.1
/-- what is at a point: 1 level, 2 upright (also the rim), else a crossing -/
def kdr (r c : Nat) (k : Nat → Nat) (y x : Nat) : Nat := if y = 0 ∨ y = 2 * r then 1 else if x = 0 ∨ x = 2 * c then 2 else k (13 * y + x)
def nxK (kk : Nat) (s : S3) : S3 := (if kk = 1 then s.1 else if s.2.2 = true then s.1 + 1 else s.1 - 1, if kk = 2 then s.2.1 else if rtB s = true then s.2.1 + 1 else s.2.1 - 1, if kk = 1 then !s.2.2 else s.2.2)
def nx (r c : Nat) (k : Nat → Nat) (s : S3) : S3 := nxK (kdr r c k (eY s) (eX s)) s
def rv (s : S3) : S3 := (s.1, s.2.1, !s.2.2)
def inG (r c : Nat) (s : S3) : Prop := s.1 < 2 * r ∧ s.2.1 < 2 * c
def ceN (s : S3) : Nat := 12 * s.1 + s.2.1
theorem rv_rv (s : S3) : rv (rv s) = s := by
  obtain ⟨a, b, d⟩ := s
  simp [rv]
/-- the two kinds that a step can meet at the rim -/
theorem kdr_y0 {r c : Nat} {k : Nat → Nat} {x : Nat} : kdr r c k 0 x = 1 := by simp [kdr]
theorem kdr_yr {r c : Nat} {k : Nat → Nat} {x : Nat} : kdr r c k (2 * r) x = 1 := by simp [kdr]
theorem kdr_x0 {r c : Nat} {k : Nat → Nat} {y : Nat} (h1 : y ≠ 0) (h2 : y ≠ 2 * r) : kdr r c k y 0 = 2 := by simp [kdr, h1, h2]
theorem kdr_xc {r c : Nat} {k : Nat → Nat} {y : Nat} (h1 : y ≠ 0) (h2 : y ≠ 2 * r) : kdr r c k y (2 * c) = 2 := by simp [kdr, h1, h2]
/-- parity at a step's end -/
theorem e_odd (s : S3) : (eY s + eX s) % 2 = 1 := by
  obtain ⟨a, b, d⟩ := s
  unfold eY eX rtB flB
  by_cases h : (a + b) % 2 = 1 <;> cases d <;> simp [h] <;> omega
theorem nx_in {r c : Nat} {k : Nat → Nat} {s : S3} (h : inG r c s) : inG r c (nx r c k s) := by
  have ho := e_odd s
  obtain ⟨a, b, d⟩ := s
  obtain ⟨h1, h2⟩ := h
  dsimp only at h1 h2
  generalize hkk : kdr r c k (eY (a, b, d)) (eX (a, b, d)) = kk
  have hy1 : eY (a, b, d) = 0 ∨ eY (a, b, d) = 2 * r → kk = 1 := by
    intro q
    rw [← hkk]
    unfold kdr
    rw [if_pos q]
  have hx1 : eX (a, b, d) = 0 ∨ eX (a, b, d) = 2 * c → kk = 2 := by
    intro q
    have hn : ¬ (eY (a, b, d) = 0 ∨ eY (a, b, d) = 2 * r) := by omega
    rw [← hkk]
    unfold kdr
    rw [if_neg hn, if_pos q]
  show inG r c (nxK (kdr r c k (eY (a, b, d)) (eX (a, b, d))) (a, b, d))
  rw [hkk]
  unfold inG nxK
  dsimp only
  unfold eY at hy1
  unfold eX at hx1
  dsimp only at hy1 hx1
  constructor
  · by_cases q : kk = 1
    · rw [if_pos q]; exact h1
    · rw [if_neg q]
      cases d
      · simp only [Bool.false_eq_true, if_false] at hy1 ⊢
        omega
      · simp only [if_true] at hy1 ⊢
        have : ¬ a + 1 = 2 * r := fun z => q (hy1 (Or.inr z))
        omega
  · by_cases q : kk = 2
    · rw [if_pos q]; exact h2
    · rw [if_neg q]
      cases hr : rtB (a, b, d)
      · simp only [Bool.false_eq_true, if_false]
        omega
      · rw [hr] at hx1
        simp only [if_true] at hx1 ⊢
        have : ¬ b + 1 = 2 * c := fun z => q (hx1 (Or.inr z))
        omega
/-- where a step goes, seen back: the same point, the same kind -/
theorem back_end {r c : Nat} {k : Nat → Nat} {s : S3} (h : inG r c s) : eY (rv (nx r c k s)) = eY s ∧ eX (rv (nx r c k s)) = eX s := by
  have ho := e_odd s
  obtain ⟨a, b, d⟩ := s
  obtain ⟨h1, h2⟩ := h
  dsimp only at h1 h2
  generalize hkk : kdr r c k (eY (a, b, d)) (eX (a, b, d)) = kk
  have hy1 : eY (a, b, d) = 0 → kk = 1 := by
    intro q
    rw [← hkk, q, kdr_y0]
  have hx1 : eX (a, b, d) = 0 → kk = 2 := by
    intro q
    have hn : ¬ (eY (a, b, d) = 0 ∨ eY (a, b, d) = 2 * r) := by omega
    rw [← hkk]
    unfold kdr
    rw [if_neg hn, if_pos (Or.inl q)]
  show eY (rv (nxK (kdr r c k (eY (a, b, d)) (eX (a, b, d))) (a, b, d))) = _ ∧ eX (rv (nxK (kdr r c k (eY (a, b, d)) (eX (a, b, d))) (a, b, d))) = _
  rw [hkk]
  unfold nxK rv eY eX rtB flB at *
  dsimp only at *
  by_cases q1 : kk = 1 <;> by_cases q2 : kk = 2 <;> by_cases hp : (a + b) % 2 = 1 <;> cases d <;> simp [q1, q2, hp] at hy1 hx1 ho ⊢ <;> first | omega | (refine ⟨?_, ?_⟩ <;> split <;> omega) | (split <;> omega) | skip
theorem nx_back {r c : Nat} {k : Nat → Nat} {s : S3} (h : inG r c s) : nx r c k (rv (nx r c k s)) = rv s := by
  obtain ⟨e1, e2⟩ := back_end (k := k) h
  have hs : nx r c k (rv (nx r c k s)) = nxK (kdr r c k (eY s) (eX s)) (rv (nx r c k s)) := by
    show nxK (kdr r c k (eY (rv (nx r c k s))) (eX (rv (nx r c k s)))) _ = _
    rw [e1, e2]
  rw [hs]
  have ho := e_odd s
  obtain ⟨a, b, d⟩ := s
  obtain ⟨h1, h2⟩ := h
  dsimp only at h1 h2
  generalize hkk : kdr r c k (eY (a, b, d)) (eX (a, b, d)) = kk
  have hy1 : eY (a, b, d) = 0 → kk = 1 := by
    intro q
    rw [← hkk, q, kdr_y0]
  have hx1 : eX (a, b, d) = 0 → kk = 2 := by
    intro q
    have hn : ¬ (eY (a, b, d) = 0 ∨ eY (a, b, d) = 2 * r) := by omega
    rw [← hkk]
    unfold kdr
    rw [if_neg hn, if_pos (Or.inl q)]
  show nxK kk (rv (nxK (kdr r c k (eY (a, b, d)) (eX (a, b, d))) (a, b, d))) = rv (a, b, d)
  rw [hkk]
  unfold nxK rv eY eX rtB flB at *
  dsimp only at *
  by_cases q1 : kk = 1 <;> by_cases q2 : kk = 2 <;> by_cases hp : (a + b) % 2 = 1 <;> cases d <;> simp [q1, q2, hp] at hy1 hx1 ho ⊢ <;> first | omega | (refine ⟨?_, ?_⟩ <;> split <;> omega) | (split <;> omega) | skip
/-- a step changes the cell -/
theorem nx_ne {r c : Nat} {k : Nat → Nat} {s : S3} (h : inG r c s) : ¬ ((nx r c k s).1 = s.1 ∧ (nx r c k s).2.1 = s.2.1) := by
  obtain ⟨e1, e2⟩ := back_end (k := k) h
  have ho := e_odd s
  obtain ⟨a, b, d⟩ := s
  obtain ⟨h1, h2⟩ := h
  dsimp only at h1 h2
  generalize hkk : kdr r c k (eY (a, b, d)) (eX (a, b, d)) = kk
  have hy1 : eY (a, b, d) = 0 → kk = 1 := by
    intro q
    rw [← hkk, q, kdr_y0]
  have hx1 : eX (a, b, d) = 0 → kk = 2 := by
    intro q
    have hn : ¬ (eY (a, b, d) = 0 ∨ eY (a, b, d) = 2 * r) := by omega
    rw [← hkk]
    unfold kdr
    rw [if_neg hn, if_pos (Or.inl q)]
  show ¬ ((nxK (kdr r c k (eY (a, b, d)) (eX (a, b, d))) (a, b, d)).1 = a ∧ (nxK (kdr r c k (eY (a, b, d)) (eX (a, b, d))) (a, b, d)).2.1 = b)
  rw [hkk]
  unfold nxK rv eY eX rtB flB at *
  dsimp only at *
  by_cases q1 : kk = 1 <;> by_cases q2 : kk = 2 <;> by_cases hp : (a + b) % 2 = 1 <;> cases d <;> simp [q1, q2, hp] at hy1 hx1 ho ⊢ <;> first | omega | (split <;> omega) | skip
