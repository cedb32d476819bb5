/-! numbers: Java's ints as natural numbers -/
theorem l0 : (0 : Int32) = nI 0 := rfl
theorem l1 : (1 : Int32) = nI 1 := rfl
theorem l2 : (2 : Int32) = nI 2 := rfl
theorem l3 : (3 : Int32) = nI 3 := rfl
theorem l4 : (4 : Int32) = nI 4 := rfl
theorem l5 : (5 : Int32) = nI 5 := rfl
theorem l6 : (6 : Int32) = nI 6 := rfl
theorem l7 : (7 : Int32) = nI 7 := rfl
theorem l8 : (8 : Int32) = nI 8 := rfl
theorem l9 : (9 : Int32) = nI 9 := rfl
theorem l10 : (10 : Int32) = nI 10 := rfl
theorem l11 : (11 : Int32) = nI 11 := rfl
theorem l12 : (12 : Int32) = nI 12 := rfl
theorem l13 : (13 : Int32) = nI 13 := rfl
theorem l31 : (31 : Int32) = nI 31 := rfl
theorem l36 : (36 : Int32) = nI 36 := rfl
theorem l48 : (48 : Int32) = nI 48 := rfl
theorem l57 : (57 : Int32) = nI 57 := rfl
theorem l60 : (60 : Int32) = nI 60 := rfl
theorem l72 : (72 : Int32) = nI 72 := rfl
theorem l78 : (78 : Int32) = nI 78 := rfl
theorem l79 : (79 : Int32) = nI 79 := rfl
theorem l86 : (86 : Int32) = nI 86 := rfl
theorem l96 : (96 : Int32) = nI 96 := rfl
theorem l97 : (97 : Int32) = nI 97 := rfl
theorem l98 : (98 : Int32) = nI 98 := rfl
theorem l100 : (100 : Int32) = nI 100 := rfl
theorem l103 : (103 : Int32) = nI 103 := rfl
theorem l126 : (126 : Int32) = nI 126 := rfl
theorem l144 : (144 : Int32) = nI 144 := rfl
theorem l169 : (169 : Int32) = nI 169 := rfl
theorem l1000 : (1000 : Int32) = nI 1000 := rfl
theorem l9999 : (9999 : Int32) = nI 9999 := rfl
theorem jr_nI {a b : Nat} (ha : a < 2 ^ 31) (h0 : 0 < b) (hb : b < 2 ^ 31) : jr (nI a) (nI b) = nI (a % b) := pk_rem ha h0 hb
theorem nI_toInt' {n : Nat} (h : n < 2 ^ 31) : (nI n).toInt = (n : Int) := nI_toInt h
theorem nI_inj {a b : Nat} (ha : a < 2 ^ 31) (hb : b < 2 ^ 31) (h : nI a = nI b) : a = b := (nI_eq ha hb).mp h
/-- below 0, by its number -/
theorem nI_m1 {a : Nat} (h : 1 ≤ a) : nI a + (-1) = nI (a - 1) := by
  obtain ⟨b, rfl⟩ : ∃ b, a = b + 1 := ⟨a - 1, by omega⟩
  exact pk_m1 b
theorem neg_ne {n : Nat} (h : n < 2 ^ 31) {z : Int32} (hz : z.toInt < 0) : ¬ nI n = z := fun q => by
  have h1 := nI_toInt h
  rw [q] at h1
  omega
theorem neg_ne' {n : Nat} (h : n < 2 ^ 31) {z : Int32} (hz : z.toInt < 0) : ¬ z = nI n := fun q => neg_ne h hz q.symm
/-- every int is a number, or below 0 -/
theorem I_cases (x : Int32) : x < 0 ∨ ∃ n : Nat, n < 2 ^ 31 ∧ x = nI n := by
  rcases Decidable.em (x < 0) with h | h
  · exact Or.inl h
  · exact Or.inr (nI_of h)
theorem I_neg {x : Int32} (h : x < 0) : x.toInt < 0 := by
  have := Int32.lt_iff_toInt_lt.mp h
  simpa using this
theorem I_neg_le {x : Int32} (h : x < 0) (n : Nat) (hn : n < 2 ^ 31) : ¬ nI n ≤ x := by
  intro q
  have h1 := Int32.le_iff_toInt_le.mp q
  have h2 := I_neg h
  rw [nI_toInt hn] at h1
  omega
theorem I_neg_lt {x : Int32} (h : x < 0) (n : Nat) (hn : n < 2 ^ 31) : x < nI n := by
  rw [Int32.lt_iff_toInt_lt, nI_toInt hn]
  have h2 := I_neg h
  omega
theorem I_neg_ne {x : Int32} (h : x < 0) (n : Nat) (hn : n < 2 ^ 31) : ¬ x = nI n := fun q => by
  rw [q] at h
  exact nI_pos hn h
theorem nI_not_neg {n : Nat} (hn : n < 2 ^ 31) : ¬ nI n < 0 := nI_pos hn
theorem cl0 : (0 : Int32).toNatClampNeg = 0 := rfl
theorem upd_s {f : Nat → Int32} {k : Nat} {x : Int32} : upd f k x k = x := pk_us
theorem upd_n {f : Nat → Int32} {k j : Nat} {x : Int32} (h : j ≠ k) : upd f k x j = f j := pk_un h
theorem upd_e (f : Nat → Int32) (k : Nat) (x : Int32) (j : Nat) : upd f k x j = if j = k then x else f j := by
  by_cases h : j = k
  · subst h; rw [upd_s, if_pos rfl]
  · rw [upd_n h, if_neg h]
/-- truth as Java has it -/
def bI (b : Bool) : Int32 := if b then 1 else 0
theorem bI_t : bI true = 1 := rfl
theorem bI_f : bI false = 0 := rfl
theorem isB_b (b : Bool) : isB (bI b) := by cases b <;> first | exact isB_0 | exact isB_1
theorem bI_0 {b : Bool} : bI b = 0 ↔ b = false := by cases b <;> decide
theorem bI_1 {b : Bool} : bI b = 1 ↔ b = true := by cases b <;> decide
theorem bI_inj {a b : Bool} : bI a = bI b ↔ a = b := by cases a <;> cases b <;> decide
theorem bI_if {c : Prop} [Decidable c] : (if c then (1 : Int32) else 0) = bI (decide c) := by
  by_cases h : c <;> simp [bI, h]
theorem bI_ifn {c : Prop} [Decidable c] : (if c then (0 : Int32) else 1) = bI (!decide c) := by
  by_cases h : c <;> simp [bI, h]
/-- a remainder or quotient of a negative int: what is wanted of it -/
theorem vp_nI {n N : Nat} (h : n < N) (hN : N < 2 ^ 31 := by omega) : vp_in (nI n) N := vp_in_nI h hN
/-- a loop that counts up to an end -/
theorem lp_up {α : Type} {B : (α → Prop) → α → Prop} (I : Nat → α → Prop) (e : Nat) (hs : ∀ (R : α → Prop) (i : Nat) (a : α), I i a → i ≤ e → (i < e → ∀ b, I (i + 1) b → R b) → B R a) : ∀ (n i : Nat) (a : α), I i a → i ≤ e → e - i < n → lpN B n a := by
  intro n
  induction n with
  | zero => intro i a _ _ h; exact absurd h (Nat.not_lt_zero _)
  | succ n ih =>
    intro i a h hi hn
    exact hs _ i a h hi (fun hlt b hb => ih (i + 1) b hb hlt (by omega))
theorem FU_of {n : Nat} (h : n < 100000) : n < FU := h
