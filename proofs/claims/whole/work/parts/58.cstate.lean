/-! the component's plait made anew -/
def sqI (x : Int32) : Option Nat := if x < 1 then none else if 6 < x then none else some x.toNatClampNeg
theorem sqI_some {x : Int32} {n : Nat} (h : sqI x = some n) : x = nI n ∧ 1 ≤ n ∧ n ≤ 6 := by
  unfold sqI at h
  by_cases h1 : x < 1
  · rw [if_pos h1] at h; cases h
  · rw [if_neg h1] at h
    by_cases h2 : (6 : Int32) < x
    · rw [if_pos h2] at h; cases h
    · rw [if_neg h2] at h
      have h0 : ¬ x < 0 := fun q => h1 (Int32.lt_iff_toInt_lt.mpr (by have := I_neg q; have e : (1 : Int32).toInt = 1 := rfl; omega))
      obtain ⟨j, hj, rfl⟩ := nI_of h0
      rw [nI_clamp hj] at h
      cases h
      refine ⟨rfl, ?_, ?_⟩
      · rcases Nat.lt_or_ge n 1 with q | q
        · exact absurd (nI_lt q (by omega)) h1
        · exact q
      · rcases Nat.lt_or_ge 6 n with q | q
        · exact absurd (nI_lt q hj) h2
        · exact q
theorem s_isSq {x : Int32} {Q : Int32 → Prop} (h1 : sqI x = none → Q 0) (h2 : ∀ n, sqI x = some n → Q 1) : wX5_isSquares x Q := by
  unfold wX5_isSquares
  unfold sqI at h1 h2
  by_cases q1 : x < 1
  · rw [if_pos q1] at h1 ⊢; exact h1 rfl
  · rw [if_neg q1] at h1 h2 ⊢
    by_cases q2 : (6 : Int32) < x
    · rw [if_pos q2] at h1 ⊢; exact h1 rfl
    · rw [if_neg q2] at h2 ⊢; exact h2 _ rfl
theorem sqI_nI {n : Nat} (h1 : 1 ≤ n) (h2 : n ≤ 6) : sqI (nI n) = some n := by
  unfold sqI
  rw [l1, l6, if_neg (nI_nlt h1 (by omega)), if_neg (nI_nlt h2 (by omega)), nI_clamp (by omega)]
/-- places before P are laid -/
def SpI (r c P : Nat) (inner : Int32) (pts nums : Nat → Int32) : Prop := inner = nI (cnt r c P) ∧ (∀ p, p < P → p < 169 → inn r c p = true → nums p = nI (cnt r c p) ∧ pts (cnt r c p) = nI (100 * (p / 13) + p % 13)) ∧ ∀ p, p < 169 → (P ≤ p ∨ inn r c p = false) → nums p = -9
theorem SpI.skip {r c P P' : Nat} {inner : Int32} {pts nums : Nat → Int32} (h : SpI r c P inner pts nums) (hle : P ≤ P') (hn : ∀ j, P ≤ j → j < P' → inn r c j = false) : SpI r c P' inner pts nums := by
  obtain ⟨h1, h2, h3⟩ := h
  refine ⟨by rw [cnt_skip hle hn]; exact h1, fun p hp hp2 hi => ?_, fun p hp hq => ?_⟩
  · rcases Nat.lt_or_ge p P with q | q
    · exact h2 p q hp2 hi
    · have := hn p q hp
      rw [this] at hi
      exact absurd hi (by decide)
  · refine h3 p hp ?_
    rcases hq with q | q
    · exact Or.inl (by omega)
    · exact Or.inr q
theorem inn_no {r c y x : Nat} (hx : x < 13) (h : ¬ inYX r c y x) : inn r c (13 * y + x) = false := by
  cases q : inn r c (13 * y + x) with
  | false => rfl
  | true => exact absurd ((inn_yx hx).mp q) h
theorem s_spread {r c : Nat} (hR : RC r c) {d a i : Int32} {pts kinds nums : Nat → Int32} {Q : Int32 → Int32 → Int32 → (Nat → Int32) → (Nat → Int32) → (Nat → Int32) → Prop}
    (h : ∀ pts' kinds' nums', PlR r c (fun _ => 0) (nI r) (nI c) (nI (inN r c)) pts' kinds' nums' → Q (nI r) (nI c) (nI (inN r c)) pts' kinds' nums') : wX3_spread d a i pts kinds nums (nI r) (nI c) Q := by
  obtain ⟨r1, r2, r3, r4⟩ := id hR
  have h60 := inN_le hR
  unfold wX3_spread
  refine s_isSq (fun z => by rw [sqI_nI r1 r2] at z; cases z) (fun n _ => ?_)
  rw [if_neg (by decide)]
  refine s_isSq (fun z => by rw [sqI_nI r3 r4] at z; cases z) (fun n _ => ?_)
  rw [if_neg (by decide)]
  refine s_fill (by omega) (fun kf hk1 _ => s_fill (by omega) (fun nf hn1 _ => ?_))
  unfold lX3_spread_49
  have hend : ∀ {inner pts' nums'}, SpI r c (13 * (2 * r)) inner pts' nums' → wX3_spread_X134 (nI r) (nI c) Q kf inner pts' nums' := by
    intro inner pts' nums' hS
    obtain ⟨g1, g2, g3⟩ := hS.skip (P' := 169) (by omega) (fun j h1 h2 => by
      cases q : inn r c j with
      | false => rfl
      | true =>
        have := (inn_iff.mp q)
        omega)
    unfold wX3_spread_X134
    have e : inner = nI (inN r c) := g1
    rw [e]
    refine h _ _ _ ⟨rfl, rfl, rfl, fun p hp hi => ?_, fun p hp hi => g3 p hp (Or.inr hi), fun j _ h2 => hk1 j h2⟩
    obtain ⟨f1, f2⟩ := g2 p hp hp hi
    exact ⟨f1, f2, hk1 _ (cnt_60 hR hi)⟩
  refine lpN_inv (fun x => ∃ y, 1 ≤ y ∧ y ≤ 2 * r ∧ x.1 = nI y ∧ SpI r c (13 * y) x.2.1 x.2.2.1 x.2.2.2) (fun x => 20 - x.1.toNatClampNeg) ?_ FU _ ⟨1, by omega, by omega, rfl, ?_, ?_, ?_⟩ (FU_of (by omega))
  · rintro RR ⟨x49, inner, pt, nu⟩ ⟨y, hy1, hy2, e1, hS⟩ hRR
    dsimp only at e1 hS ⊢
    subst e1
    unfold bX3_spread_49
    rw [l2, pk_mul]
    by_cases q : y < 2 * r
    · rw [if_neg (nI_ge q (by omega))]
      unfold lX3_spread_63
      have e63 : (1 : Int32) + jr (nI y) (nI 2) = nI (1 + y % 2) := by rw [jr_nI (by omega) (by omega) (by omega), l1, nI_add]
      rw [e63]
      refine lpN_inv (fun x => ∃ xx, 1 ≤ xx ∧ xx ≤ 2 * c + 1 ∧ (y + xx) % 2 = 1 ∧ x.1 = nI xx ∧ SpI r c (13 * y + xx) x.2.1 x.2.2.1 x.2.2.2) (fun x => 40 - x.1.toNatClampNeg) ?_ FU _ ⟨1 + y % 2, by omega, by omega, by omega, rfl, ?_⟩ (FU_of (by omega))
      · rintro RX ⟨x63, inner2, pt2, nu2⟩ ⟨xx, hx1, hx2, hx3, e1, hS2⟩ hRX
        dsimp only at e1 hS2 ⊢
        subst e1
        unfold bX3_spread_63
        rw [l2, pk_mul]
        by_cases q2 : xx < 2 * c
        · rw [if_neg (nI_ge q2 (by omega))]
          have hyx : inYX r c y xx := ⟨hy1, q, hx1, q2, hx3⟩
          have hin : inn r c (13 * y + xx) = true := (inn_yx (by omega)).mpr hyx
          have hc60 := cnt_60 hR hin
          obtain ⟨g1, g2, g3⟩ := hS2
          subst g1
          rw [l60, if_neg (nI_ge hc60 (by omega)), l13, pk_mul, nI_add]
          refine ⟨vp_in_nI (by omega) (by omega), vp_in_nI hc60 (by omega), ?_⟩
          rw [nI_clamp (by omega), nI_clamp (by omega), nI_1, nI_add, l100, pk_mul, nI_add]
          refine hRX _ ?_ ?_
          · have hS3 : SpI r c (13 * y + xx + 1) (nI (cnt r c (13 * y + xx) + 1)) (upd pt2 (cnt r c (13 * y + xx)) (nI (100 * y + xx))) (upd nu2 (y * 13 + xx) (nI (cnt r c (13 * y + xx)))) := by
              refine ⟨by rw [cnt_succ, if_pos hin], fun p hp hp2 hi => ?_, fun p hp hq => ?_⟩
              · rw [upd_e, upd_e]
                by_cases z : p = 13 * y + xx
                · subst z
                  rw [if_pos (by omega), if_pos rfl]
                  exact ⟨rfl, congrArg nI (by omega)⟩
                · rw [if_neg (by omega), if_neg (fun e => z (cnt_inj hi hin e))]
                  exact g2 p (by omega) hp2 hi
              · rw [upd_e]
                rcases hq with z | z
                · rw [if_neg (by omega)]; exact g3 p hp (Or.inl (by omega))
                · rw [if_neg (fun e => by rw [show p = 13 * y + xx by omega, hin] at z; cases z)]
                  exact g3 p hp (Or.inr z)
            refine ⟨xx + 2, by omega, by omega, by omega, rfl, ?_⟩
            refine hS3.skip (by omega) (fun j h1 h2 => ?_)
            have : j = 13 * y + (xx + 1) := by omega
            rw [this]
            exact inn_no (by omega) (fun z => by have := z.2.2.2.2; omega)
          · show 40 - (nI (xx + 2)).toNatClampNeg < 40 - (nI xx).toNatClampNeg
            rw [nI_clamp (by omega), nI_clamp (by omega)]
            omega
        · rw [if_pos (nI_le (by omega) (by omega))]
          unfold wX3_spread_X128
          rw [nI_1]
          refine hRR _ ⟨y + 1, by omega, by omega, rfl, ?_⟩ ?_
          · refine hS2.skip (by omega) (fun j h1 h2 => ?_)
            have : j = 13 * y + (j - 13 * y) := by omega
            rw [this]
            exact inn_no (by omega) (fun z => by have := z.2.2.2.1; omega)
          · show 20 - (nI (y + 1)).toNatClampNeg < 20 - (nI y).toNatClampNeg
            rw [nI_clamp (by omega), nI_clamp (by omega)]
            omega
      · refine hS.skip (by omega) (fun j h1 h2 => ?_)
        have : j = 13 * y + (j - 13 * y) := by omega
        rw [this]
        exact inn_no (by omega) (fun z => by have := z.2.2.1; have := z.2.2.2.2; omega)
    · rw [if_pos (nI_le (by omega) (by omega))]
      have : y = 2 * r := by omega
      subst this
      exact hend hS
  · have : cnt r c (13 * 1) = 0 := by
      rw [cnt_skip (p := 0) (by omega) (fun j h1 h2 => ?_)]
      · rfl
      · cases q : inn r c j with
        | false => rfl
        | true => have := inn_iff.mp q; omega
    rw [this]; rfl
  · intro p h1 h2 hi
    have := inn_iff.mp hi
    omega
  · exact fun p hp _ => hn1 p hp
/-- seeds -/
abbrev SS : Type := Int64 × (Nat → Nat)
def sdN (x : Int64) : Int64 := x * 6364136223846793005 + 1442695040888963407
def kdN (h v : Nat) (x : Int64) : Nat := if lfN x < h then 1 else if lfN x < h + v then 2 else 0
def soG (h v : Nat) (p : Nat) (s : SS) : SS := (sdN s.1, kU s.2 p (kdN h v (sdN s.1)))
def soP (r c : Nat) (h v : Nat) (x : Int64) (p : Nat) : SS := FP r c (soG h v) (x, fun _ => 0) p
def soE (r c : Nat) (h v : Nat) (x : Int64) : Nat → Nat := (soP r c h v x 169).2
theorem soP_3 (r c h v : Nat) (x : Int64) : ∀ p q, (soP r c h v x p).2 q ≤ 3 := by
  intro p
  induction p with
  | zero => intro q; exact Nat.zero_le _
  | succ p ih =>
    cases hq : inn r c p with
    | false =>
      have e : soP r c h v x (p + 1) = soP r c h v x p := FP_out hq
      rw [e]; exact ih
    | true =>
      have e : soP r c h v x (p + 1) = soG h v p (soP r c h v x p) := FP_in hq
      rw [e]
      refine kU_3 ih ?_
      unfold kdN
      split
      · omega
      · split <;> omega
theorem s_sow {r c : Nat} (hR : RC r c) {down across : Int32} {pts kinds nums : Nat → Int32} (R : PlR r c (fun _ => 0) down across (nI (inN r c)) pts kinds nums) {x : Int64} {h v : Nat} (hh : h ≤ 10) (hv : v ≤ 10) {Q : (Nat → Int32) → Prop} (hQ : ∀ kinds', PlR r c (soE r c h v x) down across (nI (inN r c)) pts kinds' nums → Q kinds') : wX3_sow (nI (inN r c)) kinds x (nI h) (nI v) Q := by
  have h60 := inN_le hR
  unfold wX3_sow lX3_sow_6
  refine lp_num (r := r) (c := c) (soG h v) ((x, fun _ => 0) : SS) (fun i s a => a.1 = s.1 ∧ a.2.1 = nI i ∧ PlR r c s.2 down across (nI (inN r c)) pts a.2.2 nums) (inN r c) (Nat.le_refl _) ?_ ?_ ?_ FU _ ⟨rfl, rfl, R⟩ (FU_of (by omega))
  · rintro RR p s ⟨x1, x2, kf⟩ hlt hp hip hb ⟨e1, e2, e3⟩ hRR
    dsimp only at e1 e2 e3 ⊢
    subst e1; subst e2
    unfold bX3_sow_6
    have hc60 := cnt_60 hR hip
    rw [if_neg (nI_ge hlt (by omega)), l60, if_neg (nI_ge hc60 (by omega))]
    refine ⟨vp_in_nI hc60 (by omega), ?_⟩
    rw [nI_clamp (by omega), nI_1, nI_add, nI_l (by omega), nI_l (by omega)]
    have hs : s.1 * 6364136223846793005 + 1442695040888963407 = sdN s.1 := rfl
    rw [hs, lf_L]
    have h10 := lf_10 (sdN s.1)
    have e : (if lN h ≤ lN (lfN (sdN s.1)) then (if lN (h + v) ≤ lN (lfN (sdN s.1)) then (0 : Int32) else 2) else 1) = nI (kdN h v (sdN s.1)) := by
      unfold kdN
      by_cases q1 : lfN (sdN s.1) < h
      · rw [if_pos q1, if_neg (fun z => by have := (lN_le (by omega) (by omega)).mp z; omega)]; rfl
      · rw [if_neg q1, if_pos ((lN_le (by omega) (by omega)).mpr (by omega))]
        by_cases q2 : lfN (sdN s.1) < h + v
        · rw [if_pos q2, if_neg (fun z => by have := (lN_le (by omega) (by omega)).mp z; omega)]; rfl
        · rw [if_neg q2, if_pos ((lN_le (by omega) (by omega)).mpr (by omega))]; rfl
    rw [e]
    exact hRR _ ⟨rfl, rfl, e3.put hR hip⟩
  · intro RR i b a h1 h2
    omega
  · rintro RR ⟨x1, x2, kf⟩ ⟨e1, e2, e3⟩
    dsimp only at e1 e2 e3 ⊢
    subst e2
    unfold bX3_sow_6
    rw [if_pos (nI_le (by omega) (by omega))]
    exact hQ _ e3
/-- THE TEXT: n bytes more -/
def wrT (n : Nat) (v : Int64) (tx : Nat → Nat) (ln : Nat) : Nat → Nat := fun q => if ln ≤ q ∧ q < ln + n then bytL v (n - 1 - (q - ln)) else tx q
def TxR (tx : Nat → Nat) (ln : Nat) (f : Nat → Int32) : Prop := ∀ j, j < ln → f j = nI (tx j)
theorem byt_lt (v : Int64) (i : Nat) : bytL v i < 256 := Nat.mod_lt _ (by decide)
theorem s_append {tx : Nat → Nat} {ln n : Nat} {v : Int64} (hn1 : 1 ≤ n) (hn8 : n ≤ 8) (hr : ln + n ≤ 72) {f : Nat → Int32} (hf : TxR tx ln f) {Q : Int32 → (Nat → Int32) → Prop} (h : ∀ f', TxR (wrT n v tx ln) (ln + n) f' → Q (nI (ln + n)) f') : wX4_append (nI ln) f (nI n) v Q := by
  unfold wX4_append lX4_append_5
  have e0 : nI n - 1 = nI (n - 1) := pk_sub (a := n) (b := 1) hn1
  rw [e0]
  refine lpN_inv (fun x => (∃ j, j < n ∧ x.1 = nI (n - 1 - j) ∧ x.2.1 = nI (ln + j) ∧ TxR (wrT n v tx ln) (ln + j) x.2.2) ∨ (x.1 = -1 ∧ x.2.1 = nI (ln + n) ∧ TxR (wrT n v tx ln) (ln + n) x.2.2)) (fun x => 100 - x.2.1.toNatClampNeg) ?_ FU _ (Or.inl ⟨0, by omega, rfl, rfl, fun j hj => ?_⟩) (FU_of (by omega))
  · rintro RR ⟨x5, le, g⟩ hI hRR
    rcases hI with ⟨j, hj, e1, e2, e3⟩ | ⟨e1, e2, e3⟩
    · dsimp only at e1 e2 e3 ⊢
      subst e1; subst e2
      unfold bX4_append_5
      rw [if_neg (nI_pos (by omega)), l72, if_neg (nI_ge (by omega) (by omega)), byt_c v (by omega)]
      refine ⟨vp_in_nI (by omega) (by omega), ?_⟩
      rw [nI_clamp (by omega), nI_1]
      have hS : TxR (wrT n v tx ln) (ln + j + 1) (upd g (ln + j) (nI (bytL v (n - 1 - j)))) := by
        intro q hq
        rw [upd_e]
        by_cases z : q = ln + j
        · subst z
          rw [if_pos rfl]
          unfold wrT
          rw [if_pos ⟨by omega, by omega⟩, show n - 1 - (ln + j - ln) = n - 1 - j by omega]
        · rw [if_neg z]; exact e3 q (by omega)
      refine hRR _ ?_ ?_
      · by_cases z : j + 1 < n
        · refine Or.inl ⟨j + 1, z, ?_, rfl, hS⟩
          show nI (n - 1 - j) + -1 = nI (n - 1 - (j + 1))
          rw [nI_m1 (by omega)]
          congr 1
        · refine Or.inr ⟨?_, ?_, ?_⟩
          · show nI (n - 1 - j) + -1 = -1
            rw [show n - 1 - j = 0 by omega]; rfl
          · show nI (ln + j + 1) = nI (ln + n)
            congr 1; omega
          · show TxR _ (ln + n) _
            rw [show ln + n = ln + j + 1 by omega]; exact hS
      · show 100 - (nI (ln + j + 1)).toNatClampNeg < 100 - (nI (ln + j)).toNatClampNeg
        rw [nI_clamp (by omega), nI_clamp (by omega)]
        omega
    · dsimp only at e1 e2 e3 ⊢
      subst e1; subst e2
      unfold bX4_append_5
      rw [if_pos (by decide)]
      exact h _ e3
  · show f j = _
    rw [hf j (by omega)]
    unfold wrT
    rw [if_neg (by omega)]
