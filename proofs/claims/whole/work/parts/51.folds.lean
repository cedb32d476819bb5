/-! over the inner points in order -/
def FP {α : Type} (r c : Nat) (g : Nat → α → α) (a0 : α) : Nat → α
  | 0 => a0
  | p + 1 => if inn r c p = true then g p (FP r c g a0 p) else FP r c g a0 p
theorem FP_in {α : Type} {r c p : Nat} {g : Nat → α → α} {a0 : α} (h : inn r c p = true) : FP r c g a0 (p + 1) = g p (FP r c g a0 p) := if_pos h
theorem FP_out {α : Type} {r c p : Nat} {g : Nat → α → α} {a0 : α} (h : inn r c p = false) : FP r c g a0 (p + 1) = FP r c g a0 p := if_neg (by rw [h]; decide)
theorem FP_skip {α : Type} {r c : Nat} {g : Nat → α → α} {a0 : α} : ∀ {q p : Nat}, p ≤ q → cnt r c p = cnt r c q → FP r c g a0 q = FP r c g a0 p := by
  intro q
  induction q with
  | zero => intro p h _; rw [show p = 0 by omega]
  | succ q ih =>
    intro p h he
    rcases Nat.eq_or_lt_of_le h with e | e
    · rw [e]
    · have h1 : cnt r c p ≤ cnt r c q := cnt_mono (by omega)
      have h2 := cnt_succ r c q
      cases hq : inn r c q with
      | true => rw [hq] at h2; simp at h2; omega
      | false =>
        rw [hq] at h2
        simp at h2
        rw [FP_out hq]
        exact ih (by omega) (by omega)
/-- a loop over numbers -/
theorem lp_num {α β : Type} {B : (α → Prop) → α → Prop} {r c : Nat} (g : Nat → β → β) (b0 : β) (Rl : Nat → β → α → Prop) (e : Nat) (he : inN r c ≤ e)
    (hin : ∀ (RR : α → Prop) (p : Nat) (b : β) (a : α), cnt r c p < e → p < 169 → inn r c p = true → b = FP r c g b0 p → Rl (cnt r c p) b a → (∀ a', Rl (cnt r c p + 1) (g p b) a' → RR a') → B RR a)
    (hout : ∀ (RR : α → Prop) (i : Nat) (b : β) (a : α), i < e → inN r c ≤ i → b = FP r c g b0 169 → Rl i b a → (∀ a', Rl (i + 1) b a' → RR a') → B RR a)
    (hend : ∀ (RR : α → Prop) (a : α), Rl e (FP r c g b0 169) a → B RR a) : ∀ (n : Nat) (a : α), Rl 0 b0 a → e < n → lpN B n a := by
  intro n a h0 hn
  refine lp_up (fun i a => (i < inN r c ∧ ∃ p, p < 169 ∧ inn r c p = true ∧ cnt r c p = i ∧ Rl i (FP r c g b0 p) a) ∨ (inN r c ≤ i ∧ Rl i (FP r c g b0 169) a)) e ?_ n 0 a ?_ (Nat.zero_le _) (by omega)
  · intro RR i a hI hi hRR
    by_cases hie : i = e
    · subst hie
      rcases hI with ⟨h1, -⟩ | ⟨-, h2⟩
      · omega
      · exact hend RR a h2
    · rcases hI with ⟨h1, p, hp, hip, hc, hR⟩ | ⟨h1, h2⟩
      · refine hin RR p _ a (by omega) hp hip rfl (by rw [hc]; exact hR) (fun a' h' => hRR (by omega) a' ?_)
        rw [hc] at h'
        have h3 : cnt r c (p + 1) = i + 1 := by rw [cnt_succ, if_pos hip, hc]
        rw [← FP_in (g := g) (a0 := b0) hip] at h'
        by_cases hl : i + 1 < inN r c
        · obtain ⟨p2, hp2, hip2, hc2⟩ := cnt_at hl
          refine Or.inl ⟨hl, p2, hp2, hip2, hc2, ?_⟩
          have hle : p + 1 ≤ p2 := by
            rcases Nat.lt_or_ge p2 (p + 1) with z | z
            · have z1 : cnt r c p2 ≤ cnt r c p := cnt_mono (by omega)
              omega
            · exact z
          rw [FP_skip hle (by omega)]
          exact h'
        · refine Or.inr ⟨by omega, ?_⟩
          rw [FP_skip (p := p + 1) (q := 169) (by omega) ?_]
          · exact h'
          · have z : cnt r c (p + 1) ≤ cnt r c 169 := cnt_mono (by omega)
            have z2 : cnt r c 169 = inN r c := rfl
            omega
      · exact hout RR i _ a (by omega) h1 rfl h2 (fun a' h' => hRR (by omega) a' (Or.inr ⟨by omega, h'⟩))
  · by_cases hl : 0 < inN r c
    · obtain ⟨p2, hp2, hip2, hc2⟩ := cnt_at hl
      refine Or.inl ⟨hl, p2, hp2, hip2, hc2, ?_⟩
      rw [FP_skip (Nat.zero_le p2) (by rw [hc2]; rfl)]
      exact h0
    · refine Or.inr ⟨by omega, ?_⟩
      rw [FP_skip (Nat.zero_le 169) ?_]
      · exact h0
      · have z2 : cnt r c 169 = inN r c := rfl
        have z3 : cnt r c 0 = 0 := rfl
        omega
/-- a loop over places -/
theorem lp_pla {α β : Type} {B : (α → Prop) → α → Prop} {r c : Nat} (g : Nat → β → β) (b0 : β) (Rl : Nat → β → α → Prop)
    (hin : ∀ (RR : α → Prop) (p : Nat) (b : β) (a : α), p < 169 → inn r c p = true → b = FP r c g b0 p → Rl p b a → (∀ a', Rl (p + 1) (g p b) a' → RR a') → B RR a)
    (hout : ∀ (RR : α → Prop) (p : Nat) (b : β) (a : α), p < 169 → inn r c p = false → b = FP r c g b0 p → Rl p b a → (∀ a', Rl (p + 1) b a' → RR a') → B RR a)
    (hend : ∀ (RR : α → Prop) (a : α), Rl 169 (FP r c g b0 169) a → B RR a) : ∀ (n : Nat) (a : α), Rl 0 b0 a → 169 < n → lpN B n a := by
  intro n a h0 hn
  refine lp_up (fun p a => Rl p (FP r c g b0 p) a) 169 ?_ n 0 a h0 (Nat.zero_le _) (by omega)
  intro RR p a hI hi hRR
  by_cases hie : p = 169
  · subst hie
    exact hend RR a hI
  · cases hq : inn r c p with
    | true => exact hin RR p _ a (by omega) hq rfl hI (fun a' h' => hRR (by omega) a' (by rw [FP_in hq]; exact h'))
    | false => exact hout RR p _ a (by omega) hq rfl hI (fun a' h' => hRR (by omega) a' (by rw [FP_out hq]; exact h'))
/-- the plait object, point by point -/
theorem PlR.nums {r c : Nat} {k : Nat → Nat} {down across inner : Int32} {pts kinds nums : Nat → Int32} (R : PlR r c k down across inner pts kinds nums) {p : Nat} (hp : p < 169) (h : inn r c p = true) : nums p = nI (cnt r c p) := (R.2.2.2.1 p hp h).1
theorem PlR.pts {r c : Nat} {k : Nat → Nat} {down across inner : Int32} {pts kinds nums : Nat → Int32} (R : PlR r c k down across inner pts kinds nums) {p : Nat} (hp : p < 169) (h : inn r c p = true) : pts (cnt r c p) = nI (100 * (p / 13) + p % 13) := (R.2.2.2.1 p hp h).2.1
theorem PlR.kind {r c : Nat} {k : Nat → Nat} {down across inner : Int32} {pts kinds nums : Nat → Int32} (R : PlR r c k down across inner pts kinds nums) {p : Nat} (hp : p < 169) (h : inn r c p = true) : kinds (cnt r c p) = nI (k p) := (R.2.2.2.1 p hp h).2.2
theorem cnt_60 {r c p : Nat} (hR : RC r c) (h : inn r c p = true) : cnt r c p < 60 := by
  have h1 := cnt_lt (inn_lt hR h) h
  have h2 := inN_le hR
  omega
theorem s_kindP {r c : Nat} {k : Nat → Nat} {down across inner : Int32} {pts kinds nums : Nat → Int32} (hR : RC r c) (R : PlR r c k down across inner pts kinds nums) {p : Nat} (h : inn r c p = true) {Q : Int32 → Prop} (hq : Q (nI (k p))) : wX3_kindOf kinds (nI (cnt r c p)) Q := by
  refine s_kindOf (cnt_60 hR h) ?_
  rw [R.kind (inn_lt hR h) h]; exact hq
theorem s_isCrP {r c : Nat} {k : Nat → Nat} {down across inner : Int32} {pts kinds nums : Nat → Int32} (hR : RC r c) (hk : ∀ p, k p ≤ 3) (R : PlR r c k down across inner pts kinds nums) {p : Nat} (h : inn r c p = true) {Q : Int32 → Prop} (hq : Q (bI (crB r c k p))) : wX3_isCrossing kinds (nI (cnt r c p)) Q := by
  unfold wX3_isCrossing
  refine s_kindP hR R h ?_
  have h3 := hk p
  have e : (if nI (k p) = 0 then (1 : Int32) else if nI (k p) = 3 then 1 else 0) = bI (crB r c k p) := by
    unfold crB
    rw [h]
    rw [l3, ← nI_0]
    by_cases q0 : k p = 0
    · rw [if_pos (by rw [q0]), q0]; rfl
    · rw [if_neg (fun z => q0 (nI_inj (by omega) (by omega) z))]
      by_cases q3 : k p = 3
      · rw [if_pos (by rw [q3]), q3]; rfl
      · rw [if_neg (fun z => q3 (nI_inj (by omega) (by omega) z))]
        have : ¬ k p % 3 = 0 := by omega
        simp [this, bI, nI_0]
  rw [e]; exact hq
theorem s_pointP {r c : Nat} {k : Nat → Nat} {down across inner : Int32} {pts kinds nums : Nat → Int32} (hR : RC r c) (R : PlR r c k down across inner pts kinds nums) {p : Nat} (h : inn r c p = true) {Q : Int32 → Prop} (hq : Q (nI (100 * (p / 13) + p % 13))) : wX3_pointOf pts (nI (cnt r c p)) Q := by
  refine s_pointOf (cnt_60 hR h) ?_
  rw [R.pts (inn_lt hR h) h]; exact hq
/-! the steps one by one: over, under, or a bend -/
theorem s_stepA {f : Nat → Int32} {t : Nat} {Q : Int32 → Prop} (ht : t < 144) (h : Q (f t)) : wX5_at 144 f (nI t) Q := by
  refine s_at (by omega) ?_
  rw [atv_in ht (by omega)]; exact h
theorem s_endAt {f : Nat → Int32} {t : Nat} {Q : Int32 → Prop} (ht : t < 144) (h : Q (f t)) : wX2_endAt f (nI t) Q := s_stepA ht h
theorem s_rightAt {f : Nat → Int32} {t : Nat} {Q : Int32 → Prop} (ht : t < 144) (h : Q (f t)) : wX2_rightAt f (nI t) Q := s_stepA ht h
theorem s_downAt {f : Nat → Int32} {t : Nat} {Q : Int32 → Prop} (ht : t < 144) (h : Q (f t)) : wX2_downAt f (nI t) Q := s_stepA ht h
theorem s_cellAtC {f : Nat → Int32} {t : Nat} {Q : Int32 → Prop} (ht : t < 144) (h : Q (f t)) : wX2_cellAt f (nI t) Q := s_stepA ht h
theorem s_ownerAt {f : Nat → Int32} {t : Nat} {Q : Int32 → Prop} (ht : t < 144) (h : Q (f t)) : wX2_ownerAt f (nI t) Q := s_stepA ht h
theorem s_arcAt {f : Nat → Int32} {t : Nat} {Q : Int32 → Prop} (ht : t < 144) (h : Q (f t)) : wX1_arcAt f (nI t) Q := s_stepA ht h
theorem s_ownerAt9 {f : Nat → Int32} {Q : Int32 → Prop} (h : Q (-9)) : wX2_ownerAt f (-9) Q := by
  refine s_at (by omega) ?_
  rw [atv_neg (by decide)]; exact h
theorem sg_eq (a b : Bool) : (sg a = sg b) ↔ (a = b) := by cases a <;> cases b <;> decide
theorem sg_lr (s : S3) : (if sg (rtB s) = sg s.2.2 then (1 : Int32) else 0) = bI (flB s.1 s.2.1) := by
  unfold rtB
  cases flB s.1 s.2.1 <;> cases s.2.2 <;> decide
theorem bne_I (a b : Bool) : (if bI a = bI b then (0 : Int32) else 1) = bI (a != b) := by cases a <;> cases b <;> decide
theorem bI_dec {p : Prop} [Decidable p] : (if p then (1 : Int32) else 0) = bI (decide p) := bI_if
theorem odd_I {n : Nat} (h : n < 2 ^ 31) : (if jr (nI n) 2 = 1 then (1 : Int32) else 0) = bI (decide (n % 2 = 1)) := by
  have e : jr (nI n) 2 = nI (n % 2) := jr_nI (b := 2) h (by omega) (by omega)
  rw [e, bI_dec]
  congr 1
  exact decide_eq_decide.mpr (nI_eq (b := 1) (by omega) (by omega))
theorem eq_I {a b : Nat} (ha : a < 2 ^ 31) (hb : b < 2 ^ 31) : (if nI a = nI b then (1 : Int32) else 0) = bI (decide (a = b)) := by
  rw [bI_dec]
  congr 1
  exact decide_eq_decide.mpr (nI_eq ha hb)
/-- the crossings' rows by steps, steps before T done -/
def OvR (r c : Nat) (k : Nat → Nat) (w : Nat → Bool) (T : Nat) (f : Nat → Int32) : Prop := (∀ p, p < 169 → crB r c k p = true → f (cnt r c p) = if stD (LY r c k) p (w p) < T then nI (stD (LY r c k) p (w p)) else -9) ∧ ∀ i, i < 60 → (∀ p, p < 169 → crB r c k p = true → cnt r c p ≠ i) → f i = -9
theorem OvR.step_no {r c : Nat} {k : Nat → Nat} (hR : RC r c) {w : Nat → Bool} {T : Nat} {f : Nat → Int32} (h : OvR r c k w T f) (hT : T < (LY r c k).1) (hno : ∀ p, crB r c k p = true → stP (LY r c k) p (w p) T → False) : OvR r c k w (T + 1) f := by
  refine ⟨fun p hp hc => ?_, h.2⟩
  rw [h.1 p hp hc]
  have h1 : ¬ stD (LY r c k) p (w p) = T := fun e => hno p hc (by rw [← e]; exact (stD_ok hR hc _).1)
  by_cases q : stD (LY r c k) p (w p) < T
  · rw [if_pos q, if_pos (by omega)]
  · rw [if_neg q, if_neg (by omega)]
theorem OvR.step_yes {r c : Nat} {k : Nat → Nat} (hR : RC r c) {w : Nat → Bool} {T p0 : Nat} {f : Nat → Int32} (h : OvR r c k w T f) (hT : T < (LY r c k).1) (hc0 : crB r c k p0 = true) (h0 : stP (LY r c k) p0 (w p0) T) : OvR r c k w (T + 1) (upd f (cnt r c p0) (nI T)) := by
  have e0 := (stD_ok hR hc0 (w p0)).2.1 T h0
  refine ⟨fun p hp hc => ?_, fun i hi hn => ?_⟩
  · rw [upd_e]
    by_cases q : p = p0
    · subst q
      rw [if_pos rfl, ← e0, if_pos (by omega)]
    · have hne : cnt r c p ≠ cnt r c p0 := fun z => q (cnt_inj (crB_inn hc) (crB_inn hc0) z)
      rw [if_neg hne, h.1 p hp hc]
      have h1 : ¬ stD (LY r c k) p (w p) = T := fun e => by
        obtain ⟨-, s1, s2, -⟩ := (stD_ok hR hc (w p)).1
        rw [e] at s1 s2
        obtain ⟨-, s3, s4, -⟩ := h0
        omega
      by_cases z : stD (LY r c k) p (w p) < T
      · rw [if_pos z, if_pos (by omega)]
      · rw [if_neg z, if_neg (by omega)]
  · rw [upd_e, if_neg (fun z => hn p0 (inn_lt hR (crB_inn hc0)) hc0 z.symm)]
    exact h.2 i hi hn
theorem s_passAt {r c : Nat} {k : Nat → Nat} {down across inner : Int32} {pts kinds nums : Nat → Int32} (hR : RC r c) (hk : ∀ p, k p ≤ 3) (R : PlR r c k down across inner pts kinds nums) {ob ce en rg dn : Nat → Int32} (hS : StR (LY r c k) ob ce en rg dn) {T : Nat} (hT : T < (LY r c k).1) {ov un : Nat → Int32} (hO : OvR r c k (ovD k) T ov) (hU : OvR r c k (fun p => !ovD k p) T un) {Q : Int32 → (Nat → Int32) → (Nat → Int32) → Prop}
    (h : ∀ ov' un', OvR r c k (ovD k) (T + 1) ov' → OvR r c k (fun p => !ovD k p) (T + 1) un' → Q (nI (psT r c k (LY r c k) T)) ov' un') : wX1_passAt ov un kinds nums en rg dn (nI T) Q := by
  have P := (LY_ok (r := r) (c := c) k hR.2.1 hR.2.2.2).1
  have hn := P_room hR.2.1 hR.2.2.2 P
  have hG : inG r c ((LY r c k).2.2.2.1 T) := P.2.1 T hT
  obtain ⟨e1, e2, e3, e4, e5⟩ := en_lt hR hG
  obtain ⟨-, -, s3, s4, s5⟩ := hS T hT
  have hno : psT r c k (LY r c k) T = 0 → ∀ ov' un', ov' = ov → un' = un → Q (nI 0) ov' un' := by
    intro hz ov' un' h1 h2
    subst h1; subst h2
    rw [← hz]
    have key : ∀ p d, crB r c k p = true → stP (LY r c k) p d T → False := by
      intro p d hc hst
      have h1 := (stD_ps hR hc d).2.2
      rw [← (stD_ok hR hc d).2.1 T hst, hz] at h1
      split at h1 <;> omega
    exact h _ _ (hO.step_no hR hT (fun p hc hst => key p _ hc hst)) (hU.step_no hR hT (fun p hc hst => key p _ hc hst))
  unfold wX1_passAt
  refine s_endAt (by omega) ?_
  rw [s3]
  refine s_numberOf hR R ?_
  have hnum : numP r c (nI (100 * eY ((LY r c k).2.2.2.1 T) + eX ((LY r c k).2.2.2.1 T))) = numv r c (eY ((LY r c k).2.2.2.1 T)) (eX ((LY r c k).2.2.2.1 T)) := by
    unfold numP
    rw [if_neg (nI_pos (by omega)), nI_clamp (by omega), show (100 * eY ((LY r c k).2.2.2.1 T) + eX ((LY r c k).2.2.2.1 T)) / 100 = eY ((LY r c k).2.2.2.1 T) by omega, show (100 * eY ((LY r c k).2.2.2.1 T) + eX ((LY r c k).2.2.2.1 T)) % 100 = eX ((LY r c k).2.2.2.1 T) by omega]
  rw [hnum]
  by_cases hi : inYX r c (eY ((LY r c k).2.2.2.1 T)) (eX ((LY r c k).2.2.2.1 T))
  · have hin : inn r c (enP ((LY r c k).2.2.2.1 T)) = true := by rw [inn_iff, e4, e5]; exact hi
    have h60 := cnt_60 hR hin
    rw [numv_in hi]
    rw [show 13 * eY ((LY r c k).2.2.2.1 T) + eX ((LY r c k).2.2.2.1 T) = enP ((LY r c k).2.2.2.1 T) from rfl]
    rw [if_neg (nI_pos (by omega)), l60, if_neg (nI_ge h60 (by omega))]
    refine s_isCrP hR hk R hin ?_
    rcases psT_st (k := k) hR hT with ⟨hc, d, hst, hd, hps⟩ | ⟨hc, hps⟩
    · rw [hc, bI_t, if_neg (by decide)]
      refine s_rightAt (by omega) (s_downAt (by omega) (s_kindP hR R hin ?_))
      rw [s4, s5, sg_lr, l100, pk_div (by omega) (by omega) (by omega), show (100 * eY ((LY r c k).2.2.2.1 T) + eX ((LY r c k).2.2.2.1 T)) / 100 = eY ((LY r c k).2.2.2.1 T) by omega, odd_I (by omega), l3, eq_I (by have := hk (enP ((LY r c k).2.2.2.1 T)); omega) (by omega), bne_I]
      have hov : (decide (eY ((LY r c k).2.2.2.1 T) % 2 = 1) != decide (k (enP ((LY r c k).2.2.2.1 T)) = 3)) = ovD k (enP ((LY r c k).2.2.2.1 T)) := by
        unfold ovD; rw [e4]
      rw [hov, hst.2.2.2]
      by_cases hdo : d = ovD k (enP ((LY r c k).2.2.2.1 T))
      · rw [if_pos (by rw [hdo])]
        rw [if_pos hdo] at hps
        rw [hps] at h
        refine ⟨vp_in_nI h60 (by omega), ?_⟩
        rw [nI_clamp (by omega)]
        refine h _ _ (hO.step_yes hR hT hc (by rw [← hdo]; exact hst)) (hU.step_no hR hT (fun p hc2 hst2 => ?_))
        have h1 := (stD_ps hR hc2 (!ovD k p)).2.2
        rw [← (stD_ok hR hc2 _).2.1 T hst2, hps] at h1
        rw [if_neg (by cases ovD k p <;> decide)] at h1
        omega
      · rw [if_neg (fun z => hdo (bI_inj.mp z))]
        rw [if_neg hdo] at hps
        rw [hps] at h
        refine ⟨vp_in_nI h60 (by omega), ?_⟩
        rw [nI_clamp (by omega)]
        have hdo2 : d = !ovD k (enP ((LY r c k).2.2.2.1 T)) := by
          revert hdo
          cases d <;> cases ovD k (enP ((LY r c k).2.2.2.1 T)) <;> simp
        refine h _ _ (hO.step_no hR hT (fun p hc2 hst2 => ?_)) (hU.step_yes (p0 := enP ((LY r c k).2.2.2.1 T)) hR hT hc (by show stP _ _ (!ovD k _) _; rw [← hdo2]; exact hst))
        have h1 := (stD_ps hR hc2 (ovD k p)).2.2
        rw [← (stD_ok hR hc2 _).2.1 T hst2, hps, if_pos rfl] at h1
        omega
    · rw [hc, bI_f, if_pos rfl]
      exact hno hps _ _ rfl rfl
  · rw [numv_out hi, if_pos (by decide)]
    refine hno ?_ _ _ rfl rfl
    unfold psT psS
    rw [if_neg]
    intro z
    have := inn_iff.mp (crB_inn z)
    rw [e4, e5] at this
    exact hi this
