/-! squares: which places are inner points, how many come before -/
abbrev inYX (r c y x : Nat) : Prop := 1 ≤ y ∧ y < 2 * r ∧ 1 ≤ x ∧ x < 2 * c ∧ (y + x) % 2 = 1
def inn (r c p : Nat) : Bool := decide (inYX r c (p / 13) (p % 13))
def cnt (r c p : Nat) : Nat := fb_ct (inn r c) p
def inN (r c : Nat) : Nat := cnt r c 169
def RC (r c : Nat) : Prop := 1 ≤ r ∧ r ≤ 6 ∧ 1 ≤ c ∧ c ≤ 6
set_option maxRecDepth 20000 in
theorem inN_tab : ∀ r, r < 7 → ∀ c, c < 7 → inN r c ≤ 60 := by decide +kernel
theorem inN_le {r c : Nat} (h : RC r c) : inN r c ≤ 60 := inN_tab r (by have := h.2.1; omega) c (by have := h.2.2.2; omega)
theorem inn_iff {r c p : Nat} : inn r c p = true ↔ inYX r c (p / 13) (p % 13) := by simp [inn]
theorem inn_yx {r c y x : Nat} (hx : x < 13) : inn r c (13 * y + x) = true ↔ inYX r c y x := by
  rw [inn_iff, show (13 * y + x) / 13 = y by omega, show (13 * y + x) % 13 = x by omega]
theorem inYX_lt {r c y x : Nat} (hR : RC r c) (h : inYX r c y x) : y < 13 ∧ x < 13 ∧ 13 * y + x < 169 := by
  obtain ⟨h1, h2, h3, h4⟩ := hR
  obtain ⟨g1, g2, g3, g4, g5⟩ := h
  omega
theorem inn_lt {r c p : Nat} (hR : RC r c) (h : inn r c p = true) : p < 169 := by
  have h1 := inYX_lt hR (inn_iff.mp h)
  omega
theorem cnt_succ (r c p : Nat) : cnt r c (p + 1) = cnt r c p + (if inn r c p = true then 1 else 0) := fb_ct_succ (inn r c) p
theorem cnt_mono {r c p q : Nat} (h : p ≤ q) : cnt r c p ≤ cnt r c q := fb_ct_mono _ h
theorem cnt_lt {r c p : Nat} (hp : p < 169) (h : inn r c p = true) : cnt r c p < inN r c := by
  have h1 := cnt_succ r c p
  rw [if_pos h] at h1
  have h2 : cnt r c (p + 1) ≤ cnt r c 169 := cnt_mono (by omega)
  show cnt r c p < cnt r c 169
  omega
theorem cnt_inj {r c p q : Nat} (hp : inn r c p = true) (hq : inn r c q = true) (e : cnt r c p = cnt r c q) : p = q := fb_ct_kth_one hp hq e
theorem cnt_at {r c i : Nat} (h : i < inN r c) : ∃ p, p < 169 ∧ inn r c p = true ∧ cnt r c p = i := fb_ct_kth h
theorem cnt_skip {r c : Nat} : ∀ {q p : Nat}, p ≤ q → (∀ j, p ≤ j → j < q → inn r c j = false) → cnt r c q = cnt r c p := by
  intro q
  induction q with
  | zero => intro p h _; rw [show p = 0 by omega]
  | succ q ih =>
    intro p h hj
    rcases Nat.eq_or_lt_of_le h with e | e
    · rw [e]
    · rw [cnt_succ, hj q (by omega) (by omega), ih (by omega) (fun j h1 h2 => hj j h1 (by omega))]
      simp
/-- a plait object that holds r, c and kinds k -/
def PlR (r c : Nat) (k : Nat → Nat) (down across inner : Int32) (pts kinds nums : Nat → Int32) : Prop :=
  down = nI r ∧ across = nI c ∧ inner = nI (inN r c) ∧ (∀ p, p < 169 → inn r c p = true → nums p = nI (cnt r c p) ∧ pts (cnt r c p) = nI (100 * (p / 13) + p % 13) ∧ kinds (cnt r c p) = nI (k p)) ∧ (∀ p, p < 169 → inn r c p = false → nums p = -9) ∧ (∀ i, inN r c ≤ i → i < 60 → kinds i = 0)
def atv (n : Nat) (f : Nat → Int32) (x : Int32) : Int32 := if x < 0 then -9 else if nI n ≤ x then -9 else f x.toNatClampNeg
theorem atv_in {i n : Nat} {f : Nat → Int32} (hi : i < n) (hn : n < 2 ^ 31) : atv n f (nI i) = f i := by
  unfold atv
  rw [if_neg (nI_pos (by omega)), if_neg (nI_ge hi hn), nI_clamp (by omega)]
theorem atv_neg {n : Nat} {f : Nat → Int32} {x : Int32} (h : x < 0) : atv n f x = -9 := if_pos h
theorem atv_out {i n : Nat} {f : Nat → Int32} (hi : n ≤ i) (hn : i < 2 ^ 31) : atv n f (nI i) = -9 := by
  unfold atv
  rw [if_neg (nI_pos hn), if_pos (nI_le hi hn)]
theorem s_at {n : Nat} {f : Nat → Int32} {x : Int32} {Q : Int32 → Prop} (hn : n < 2 ^ 31) (h : Q (atv n f x)) : wX5_at n f x Q := by
  unfold wX5_at
  unfold atv at h
  by_cases h1 : x < 0
  · rw [if_pos h1] at h ⊢; exact h
  · rw [if_neg h1] at h ⊢
    by_cases h2 : nI n ≤ x
    · rw [if_pos h2] at h ⊢; exact h
    · rw [if_neg h2] at h ⊢
      refine ⟨?_, h⟩
      obtain ⟨j, hj, rfl⟩ := nI_of h1
      have h3 : ¬ n ≤ j := fun q => h2 (nI_le q hj)
      exact vp_in_nI (by omega) hn
theorem s_isIn {n : Nat} {x : Int32} {Q : Int32 → Prop} (h : Q (if x < 0 then 0 else if nI n ≤ x then 0 else 1)) : wX5_isIn n x Q := by
  unfold wX5_isIn
  by_cases h1 : x < 0
  · rw [if_pos h1] at h ⊢; exact h
  · rw [if_neg h1] at h ⊢
    exact h
theorem isIn_in {i n : Nat} (hi : i < n) (hn : n < 2 ^ 31) : (if nI i < 0 then (0 : Int32) else if nI n ≤ nI i then 0 else 1) = 1 := by
  rw [if_neg (nI_pos (by omega)), if_neg (nI_ge hi hn)]
theorem isIn_out {i n : Nat} (hi : n ≤ i) (hn : i < 2 ^ 31) : (if nI i < 0 then (0 : Int32) else if nI n ≤ nI i then 0 else 1) = 0 := by
  rw [if_neg (nI_pos hn), if_pos (nI_le hi hn)]
theorem s_kindOf {kinds : Nat → Int32} {i : Nat} {Q : Int32 → Prop} (hi : i < 60) (h : Q (kinds i)) : wX3_kindOf kinds (nI i) Q := by
  unfold wX3_kindOf
  refine s_at (by omega) ?_
  rw [atv_in hi (by omega)]; exact h
theorem s_pointOf {pts : Nat → Int32} {i : Nat} {Q : Int32 → Prop} (hi : i < 60) (h : Q (pts i)) : wX3_pointOf pts (nI i) Q := by
  unfold wX3_pointOf
  refine s_at (by omega) ?_
  rw [atv_in hi (by omega)]; exact h
/-- the number at a place told by y and x -/
def numv (r c y x : Nat) : Int32 := if inYX r c y x then nI (cnt r c (13 * y + x)) else -9
theorem numv_in {r c y x : Nat} (h : inYX r c y x) : numv r c y x = nI (cnt r c (13 * y + x)) := if_pos h
theorem numv_out {r c y x : Nat} (h : ¬ inYX r c y x) : numv r c y x = -9 := if_neg h
theorem nums_at {r c : Nat} {k : Nat → Nat} {down across inner : Int32} {pts kinds nums : Nat → Int32} (R : PlR r c k down across inner pts kinds nums) {y x : Nat} (hy : y < 13) (hx : x < 13) : nums (13 * y + x) = numv r c y x := by
  obtain ⟨-, -, -, R4, R5, -⟩ := R
  by_cases h : inYX r c y x
  · rw [numv_in h]
    exact (R4 _ (by omega) ((inn_yx hx).mpr h)).1
  · rw [numv_out h]
    refine R5 _ (by omega) ?_
    cases q : inn r c (13 * y + x) with
    | false => rfl
    | true => exact absurd ((inn_yx hx).mp q) h
theorem s_numberAt {r c : Nat} {k : Nat → Nat} {down across inner : Int32} {pts kinds nums : Nat → Int32} (hR : RC r c) (R : PlR r c k down across inner pts kinds nums) {y x : Nat} (hy : y < 2 ^ 31) (hx : x < 2 ^ 31) {Q : Int32 → Prop} (h : Q (numv r c y x)) : wX3_numberAt nums (nI y) (nI x) Q := by
  unfold wX3_numberAt
  rw [if_neg (nI_pos hy)]
  by_cases h1 : y < 13
  · rw [l13, if_neg (nI_ge h1 (by omega)), if_neg (nI_pos hx)]
    by_cases h2 : x < 13
    · rw [if_neg (nI_ge h2 (by omega)), if_neg (by decide), pk_mul, nI_add]
      refine ⟨vp_in_nI (by omega) (by omega), ?_⟩
      rw [nI_clamp (by omega), show y * 13 + x = 13 * y + x by omega, nums_at R h1 h2]
      exact h
    · rw [if_pos (nI_le (by omega) hx), if_pos rfl]
      rw [numv_out (fun q => h2 (inYX_lt hR q).2.1)] at h
      exact h
  · rw [l13, if_pos (nI_le (by omega) hy), if_pos rfl]
    rw [numv_out (fun q => h1 (inYX_lt hR q).1)] at h
    exact h
theorem s_numberAt_neg {nums : Nat → Int32} {y x : Int32} {Q : Int32 → Prop} (hh : y < 0 ∨ x < 0) (h : Q (-9)) : wX3_numberAt nums y x Q := by
  unfold wX3_numberAt
  by_cases h1 : y < 0
  · rw [if_pos h1, if_pos rfl]; exact h
  · rw [if_neg h1]
    have h2 : x < 0 := by rcases hh with q | q; exact absurd q h1; exact q
    by_cases h3 : (13 : Int32) ≤ y
    · rw [if_pos h3, if_pos rfl]; exact h
    · rw [if_neg h3, if_pos h2, if_pos rfl]; exact h
/-- the number of a point as told -/
def numP (r c : Nat) (x : Int32) : Int32 := if x < 0 then -9 else numv r c (x.toNatClampNeg / 100) (x.toNatClampNeg % 100)
theorem s_numberOf {r c : Nat} {k : Nat → Nat} {down across inner : Int32} {pts kinds nums : Nat → Int32} (hR : RC r c) (R : PlR r c k down across inner pts kinds nums) {x : Int32} {Q : Int32 → Prop} (h : Q (numP r c x)) : wX3_numberOf nums x Q := by
  unfold wX3_numberOf
  unfold numP at h
  rcases I_cases x with hx | ⟨n, hn, rfl⟩
  · rw [if_pos hx] at h
    rw [if_neg (fun q => I_neg_le hx 0 (by omega) (by rw [nI_0]; exact q))]
    exact h
  · rw [if_neg (nI_pos hn), nI_clamp hn] at h
    rw [if_pos (nI_pos' hn), l100, pk_div hn (by omega) (by omega), jr_nI hn (by omega) (by omega)]
    exact s_numberAt hR R (by omega) (by omega) h
