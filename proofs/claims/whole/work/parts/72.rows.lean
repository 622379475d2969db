-- rows
/-- tenths that one stays -/
def zty (T : Tw) (c i : Nat) : Nat := if (tg T).testBit i = true then (if tt T i ≤ 9 then 10 else 10 - c) else 0
theorem zty_le {T : Tw} {c i : Nat} : zty T c i ≤ 10 := by
  unfold zty
  split
  · split <;> omega
  · omega
theorem zqf_sum {c : Nat} {T : Tw} {tgt : Option Nat} {i : Nat} (hc : c ≤ 10) : zqf c T tgt i false + zqf c T tgt i true = if tgt = some i then zty T c i else if (tg T).testBit i = true then (if zbf T tgt i = true then 10 - zty T c i else 10) else 1 := by
  unfold zqf zgd zty
  by_cases e : tgt = some i
  · simp only [e, if_true, ne_eq, not_true_eq_false, decide_false]
    cases hg : (tg T).testBit i with
    | false => simp
    | true =>
      by_cases h : tt T i ≤ 9
      · simp [h, show ¬ 9 < tt T i by omega]; omega
      · simp [h, show 9 < tt T i by omega]
  · simp only [e, if_false]
    cases hg : (tg T).testBit i with
    | false => simp [e]
    | true =>
      cases hb : zbf T tgt i with
      | false => simp; omega
      | true =>
        by_cases h : tt T i ≤ 9
        · simp [h, show ¬ 9 < tt T i by omega]
        · simp [h, show 9 < tt T i by omega]; omega
-- what the one counts
def zA0 (T : Tw) (c : Nat) (tgt : Option Nat) : Nat := match tgt with
  | none => 1
  | some k => zty T c k
def zD0 (tgt : Option Nat) : Nat := match tgt with
  | none => 1
  | some _ => 10
abbrev zan (T : Tw) (c : Nat) (tgt : Option Nat) (i : Nat) : Nat := if (tg T).testBit i = true ∧ zbf T tgt i = true then 10 - zty T c i else 1
abbrev zad (T : Tw) (tgt : Option Nat) (i : Nat) : Nat := if (tg T).testBit i = true ∧ zbf T tgt i = true then 10 else 1
abbrev zaD (T : Tw) (i : Nat) : Nat := if (tg T).testBit i = true then 10 else 1
abbrev zas (c : Nat) (T : Tw) (tgt : Option Nat) (i : Nat) : Nat := zqf c T tgt i false + zqf c T tgt i true
theorem zcross_L {c k0 : Nat} {T : Tw} (hc : c ≤ 10) : ∀ k, zpd (zas c T (some k0)) k * (zpd (zad T (some k0)) k * (if k0 < k then 10 else 1)) = zpd (zan T c (some k0)) k * (zpd (zaD T) k * (if k0 < k then zty T c k0 else 1))
  | 0 => rfl
  | k + 1 => by
    have ih := zcross_L (k0 := k0) (T := T) hc k
    show (zpd (zas c T (some k0)) k * zas c T (some k0) k) * ((zpd (zad T (some k0)) k * zad T (some k0) k) * (if k0 < k + 1 then 10 else 1)) = (zpd (zan T c (some k0)) k * zan T c (some k0) k) * ((zpd (zaD T) k * zaD T k) * (if k0 < k + 1 then zty T c k0 else 1))
    have hs : zas c T (some k0) k = _ := zqf_sum hc
    rw [hs]
    generalize zpd (zas c T (some k0)) k = S at ih ⊢
    generalize zpd (zad T (some k0)) k = D1 at ih ⊢
    generalize zpd (zan T c (some k0)) k = N1 at ih ⊢
    generalize zpd (zaD T) k = D2 at ih ⊢
    by_cases e : k0 = k
    · subst e
      have hbf : zbf T (some k0) k0 = false := decide_eq_false (by omega)
      rw [if_neg (Nat.lt_irrefl _), if_neg (Nat.lt_irrefl _), Nat.mul_one, Nat.mul_one] at ih
      rw [if_pos rfl, if_pos (Nat.lt_succ_self _), if_pos (Nat.lt_succ_self _), show zan T c (some k0) k0 = 1 from if_neg (fun q => by rw [hbf] at q; exact absurd q.2 (by decide)), show zad T (some k0) k0 = 1 from if_neg (fun q => by rw [hbf] at q; exact absurd q.2 (by decide))]
      cases hg : (tg T).testBit k0 with
      | true =>
        rw [show zaD T k0 = 10 from if_pos hg]
        calc S * zty T c k0 * (D1 * 1 * 10) = (S * D1) * (zty T c k0 * 10) := by rw [Nat.mul_one]; ac_rfl
          _ = (N1 * D2) * (zty T c k0 * 10) := by rw [ih]
          _ = N1 * 1 * (D2 * 10 * zty T c k0) := by rw [Nat.mul_one]; ac_rfl
      | false =>
        have hz : zty T c k0 = 0 := if_neg (by rw [hg]; decide)
        rw [hz]
        simp
    · have hne : ¬ (some k0 = some k) := fun q => e (Option.some.inj q)
      have h1 : (if k0 < k + 1 then 10 else 1) = (if k0 < k then 10 else 1) := by
        by_cases q : k0 < k
        · rw [if_pos q, if_pos (by omega)]
        · rw [if_neg q, if_neg (by omega)]
      have h2 : (if k0 < k + 1 then zty T c k0 else 1) = (if k0 < k then zty T c k0 else 1) := by
        by_cases q : k0 < k
        · rw [if_pos q, if_pos (by omega)]
        · rw [if_neg q, if_neg (by omega)]
      rw [if_neg hne, h1, h2]
      generalize (if k0 < k then 10 else 1) = u at ih ⊢
      generalize (if k0 < k then zty T c k0 else 1) = v at ih ⊢
      cases hg : (tg T).testBit k with
      | false =>
        rw [if_neg (by decide), show zan T c (some k0) k = 1 from if_neg (fun q => by rw [hg] at q; exact absurd q.1 (by decide)), show zad T (some k0) k = 1 from if_neg (fun q => by rw [hg] at q; exact absurd q.1 (by decide)), show zaD T k = 1 from if_neg (by rw [hg]; decide), Nat.mul_one, Nat.mul_one, Nat.mul_one, Nat.mul_one]
        exact ih
      | true =>
        rw [if_pos rfl, show zaD T k = 10 from if_pos hg]
        cases hb : zbf T (some k0) k with
        | true =>
          rw [if_pos rfl, show zan T c (some k0) k = 10 - zty T c k from if_pos ⟨hg, hb⟩, show zad T (some k0) k = 10 from if_pos ⟨hg, hb⟩]
          generalize 10 - zty T c k = x
          calc S * x * (D1 * 10 * u) = (S * (D1 * u)) * (x * 10) := by ac_rfl
            _ = (N1 * (D2 * v)) * (x * 10) := by rw [ih]
            _ = N1 * x * (D2 * 10 * v) := by ac_rfl
        | false =>
          rw [if_neg (by decide), show zan T c (some k0) k = 1 from if_neg (fun q => by rw [hb] at q; exact absurd q.2 (by decide)), show zad T (some k0) k = 1 from if_neg (fun q => by rw [hb] at q; exact absurd q.2 (by decide))]
          calc S * 10 * (D1 * 1 * u) = (S * (D1 * u)) * 10 := by rw [Nat.mul_one]; ac_rfl
            _ = (N1 * (D2 * v)) * 10 := by rw [ih]
            _ = N1 * 1 * (D2 * 10 * v) := by rw [Nat.mul_one]; ac_rfl
theorem zcross {c : Nat} {T : Tw} {tgt : Option Nat} (hc : c ≤ 10) (ht : ∀ k, tgt = some k → k < tn T) : (zA0 T c tgt * zpd (zan T c tgt) (tn T)) * zpd (zaD T) (tn T) = zpd (zas c T tgt) (tn T) * (zD0 tgt * zpd (zad T tgt) (tn T)) := by
  cases tgt with
  | none =>
    have e1 : zpd (zas c T none) (tn T) = zpd (zan T c none) (tn T) := zpd_c _ (fun i _ => by
      have hs : zas c T none i = _ := zqf_sum hc
      rw [hs]
      cases hg : (tg T).testBit i with
      | true => simp [zan, hg, zbf]
      | false => simp [zan, hg])
    have e2 : zpd (zaD T) (tn T) = zpd (zad T none) (tn T) := zpd_c _ (fun i _ => by
      cases hg : (tg T).testBit i with
      | true => simp [zaD, zad, hg, zbf]
      | false => simp [zaD, zad, hg])
    rw [e1, e2]
    show (1 * _) * _ = _ * (1 * _)
    rw [Nat.one_mul, Nat.one_mul]
  | some k0 =>
    have h := zcross_L (k0 := k0) (T := T) hc (tn T)
    rw [if_pos (ht k0 rfl), if_pos (ht k0 rfl)] at h
    show (zty T c k0 * _) * _ = _ * (10 * _)
    rw [Nat.mul_comm 10, h]
    ac_rfl
-- the greatest common divisor
theorem zgcd_st (a b : Nat) : Nat.gcd a b = Nat.gcd b (a % b) := by
  rw [Nat.gcd_comm a b, Nat.gcd_rec, Nat.gcd_comm]
theorem zgcd_hf {a b k : Nat} (hb : 0 < b) (h : b < 2 ^ (k + 1)) (hr : 0 < a % b) : b % (a % b) < 2 ^ k := by
  rw [Nat.pow_succ] at h
  have h1 : a % b < b := Nat.mod_lt _ hb
  have h2 : b % (a % b) < a % b := Nat.mod_lt _ hr
  have h3 : b % (a % b) + a % b ≤ b := by
    have h4 := Nat.div_add_mod b (a % b)
    have h5 : 0 < b / (a % b) := Nat.div_pos (by omega) hr
    have h6 : a % b * 1 ≤ a % b * (b / (a % b)) := Nat.mul_le_mul_left _ h5
    omega
  omega
theorem zp_gcd_L {N : Nat} {μ : ZM} : ∀ (k f t a b : Nat), b < 2 ^ k → 2 * k < f → t + 2 * k < 64 → a < 2 ^ 31 → b < 2 ^ 31 → f_X4_commonDivisor_L7 N f (nI a) (nI b) (nI t) μ = some (nI (Nat.gcd a b), μ)
  | 0, f, t, a, b, hb, hf, ht, ha, hb31 => by
    obtain ⟨M, rfl⟩ : ∃ M, f = M + 1 := ⟨f - 1, by omega⟩
    have b0 : b = 0 := by
      have : 2 ^ 0 = 1 := rfl
      omega
    subst b0
    unfold f_X4_commonDivisor_L7
    rw [if_neg (show ¬ (64 : Int32) ≤ nI t from nI_ge (b := 64) (by omega) (by omega)), if_pos (show nI 0 = 0 from rfl), Nat.gcd_zero_right]
  | k + 1, f, t, a, b, hb, hf, ht, ha, hb31 => by
    obtain ⟨M, rfl⟩ : ∃ M, f = M + 1 + 1 := ⟨f - 2, by omega⟩
    unfold f_X4_commonDivisor_L7
    have l1 : ¬ (64 : Int32) ≤ nI t := nI_ge (b := 64) (by omega) (by omega)
    rw [if_neg l1]
    by_cases b0 : b = 0
    · subst b0
      rw [if_pos (show nI 0 = 0 from rfl), Nat.gcd_zero_right]
    · have lb : ¬ nI b = 0 := fun q => b0 ((nI_eq (b := 0) hb31 (by omega)).mp q)
      have hr : a % b < b := Nat.mod_lt _ (by omega)
      rw [if_neg lb, if_neg lb, nI_remN ha hb31, nI_1]
      unfold f_X4_commonDivisor_L7
      have l2 : ¬ (64 : Int32) ≤ nI (t + 1) := nI_ge (b := 64) (by omega) (by omega)
      rw [if_neg l2]
      by_cases r0 : a % b = 0
      · rw [r0, if_pos (show nI 0 = 0 from rfl), zgcd_st, r0, Nat.gcd_zero_right]
      · have lr : ¬ nI (a % b) = 0 := fun q => r0 ((nI_eq (b := 0) (by omega) (by omega)).mp q)
        rw [if_neg lr, if_neg lr, nI_remN hb31 (by omega), nI_1, zp_gcd_L k M (t + 1 + 1) (a % b) (b % (a % b)) (zgcd_hf (by omega) hb (by omega)) (by omega) (by omega) (by omega) (Nat.lt_of_le_of_lt (Nat.mod_le _ _) hb31), ← zgcd_st, ← zgcd_st]
theorem zq_gcd_L {N : Nat} {ν : ZM} {x3 x5 x6 : Int32} : ∀ (k f a b : Nat), b < 2 ^ k → 2 * k < f → a < 2 ^ 31 → b < 2 ^ 31 → f_X5_rows_L250 N f x3 x5 x6 (nI a) (nI b) ν = if ¬ x3 = 0 then (if nI (Nat.gcd a b) = 0 then none else some (x6 / nI (Nat.gcd a b), ν)) else (if nI (Nat.gcd a b) = 0 then none else some (x5 / nI (Nat.gcd a b), ν))
  | 0, f, a, b, hb, hf, ha, hb31 => by
    obtain ⟨M, rfl⟩ : ∃ M, f = M + 1 := ⟨f - 1, by omega⟩
    have b0 : b = 0 := by
      have : 2 ^ 0 = 1 := rfl
      omega
    subst b0
    unfold f_X5_rows_L250
    rw [if_pos (show nI 0 = 0 from rfl), Nat.gcd_zero_right]
  | k + 1, f, a, b, hb, hf, ha, hb31 => by
    obtain ⟨M, rfl⟩ : ∃ M, f = M + 1 + 1 := ⟨f - 2, by omega⟩
    unfold f_X5_rows_L250
    by_cases b0 : b = 0
    · subst b0
      rw [if_pos (show nI 0 = 0 from rfl), Nat.gcd_zero_right]
    · have lb : ¬ nI b = 0 := fun q => b0 ((nI_eq (b := 0) hb31 (by omega)).mp q)
      have hr : a % b < b := Nat.mod_lt _ (by omega)
      rw [if_neg lb, if_neg lb, nI_remN ha hb31]
      unfold f_X5_rows_L250
      by_cases r0 : a % b = 0
      · rw [r0, if_pos (show nI 0 = 0 from rfl), zgcd_st, r0, Nat.gcd_zero_right]
      · have lr : ¬ nI (a % b) = 0 := fun q => r0 ((nI_eq (b := 0) (by omega) (by omega)).mp q)
        rw [if_neg lr, if_neg lr, nI_remN hb31 (by omega), zq_gcd_L k M (a % b) (b % (a % b)) (zgcd_hf (by omega) hb (by omega)) (by omega) (by omega) (Nat.lt_of_le_of_lt (Nat.mod_le _ _) hb31), ← zgcd_st, ← zgcd_st]
-- the one's loop
theorem zp_stay {N c i : Nat} {μ : ZM} {T : Tw} (h : CT μ 1 T) (hT : tok T) (hc : c ≤ 10) (hi : i < tn T) : f_X3_tenthsToStay N 1 (nI i) (nI c) μ = some (nI (zty T c i), μ) := by
  have h7 := hT.1
  have u4 : μ.1 5 i = nI (tt T i) := (h.2.2.2.2 i hi).2.2.2
  have ht := (hT.2.2.2 i hi).2.2.2
  unfold f_X3_tenthsToStay zty
  rw [zp_isT h (tok_g hT) (by omega)]
  cases hg : (tg T).testBit i with
  | false =>
    simp only [Option.bind_some, Bool.false_eq_true, if_false, not_true_eq_false]
    rfl
  | true =>
    rw [show (10 : Int32) = nI 10 from rfl]
    simp only [Option.bind_some, if_true, zt10, not_false_eq_true, zp_o (show i < 7 by omega) (show 7 < 2 ^ 31 by omega), nI_clamp (show i < 2 ^ 31 by omega), Bool.false_eq_true, if_false, Nat.reduceAdd, u4, nI_add, nI_subN hc]
    by_cases e : tt T i ≤ 9
    · rw [if_pos (show nI (tt T i + 10) ≤ 19 from nI_le (b := 19) (by omega) (by omega)), if_pos e]
    · rw [if_neg (show ¬ nI (tt T i + 10) ≤ 19 from nI_ge (a := 19) (by omega) (by omega)), if_neg e]
theorem zp_before {N k i : Nat} {μ : ZM} {T : Tw} (h : CT μ 1 T) (hT : tok T) (hk : k < tn T) (hi : i < tn T) : f_X3_isBefore N 1 (nI i) (nI k) μ = some (if zbf T (some k) i = true then 1 else 0, μ) := by
  have h7 := hT.1
  have ui : μ.1 3 i = nI (tw T i) := (h.2.2.2.2 i hi).2.1
  have uk : μ.1 3 k = nI (tw T k) := (h.2.2.2.2 k hk).2.1
  have hwi := (hT.2.2.2 i hi).2.1
  have hwk := (hT.2.2.2 k hk).2.1
  unfold f_X3_isBefore
  simp only [zp_o (show i < 7 by omega) (show 7 < 2 ^ 31 by omega), nI_clamp (show i < 2 ^ 31 by omega), zp_o (show k < 7 by omega) (show 7 < 2 ^ 31 by omega), nI_clamp (show k < 2 ^ 31 by omega), Bool.false_eq_true, if_false, Nat.reduceAdd, ui, uk, zp_z0, zp_z1]
  by_cases e1 : tw T k < tw T i
  · rw [if_pos (nI_lt e1 (by omega)), show zbf T (some k) i = true from decide_eq_true (Or.inl e1)]; rfl
  · rw [if_neg (nI_nlt (by omega) (by omega))]
    by_cases e2 : tw T i = tw T k
    · rw [if_neg (fun q => q (by rw [e2]))]
      by_cases e3 : k ≤ i
      · rw [if_pos (nI_le e3 (by omega)), show zbf T (some k) i = false from decide_eq_false (by omega)]; rfl
      · rw [if_neg (nI_ge (by omega) (by omega)), show zbf T (some k) i = true from decide_eq_true (Or.inr ⟨e2, by omega⟩)]; rfl
    · rw [if_pos (fun q => e2 ((nI_eq (by omega) (by omega)).mp q)), show zbf T (some k) i = false from decide_eq_false (by omega)]; rfl
theorem zp_rows_L {N c : Nat} {μ : ZM} {T : Tw} {tgt : Option Nat} {x1 x3 x4 : Int32} (h : CT μ 1 T) (hT : tok T) (hc : c ≤ 10) (hx : (x4 = 1 ∧ tgt = none) ∨ ∃ k, k < tn T ∧ x4 = 0 ∧ x1 = nI k ∧ tgt = some k) : ∀ (f i : Nat), tn T < i + f → i ≤ tn T → ∃ M, f_X4_rows_L82 N f 0 x1 (nI c) x3 x4 (nI (zA0 T c tgt * zpd (zan T c tgt) i)) (nI (zD0 tgt * zpd (zad T tgt) i)) (nI i) μ = f_X4_rows_L82 N (M + 1) 0 x1 (nI c) x3 x4 (nI (zA0 T c tgt * zpd (zan T c tgt) (tn T))) (nI (zD0 tgt * zpd (zad T tgt) (tn T))) (nI (tn T)) μ
  | 0, i, hf, hi => absurd hf (by omega)
  | f + 1, i, hf, hi => by
    have h7 := hT.1
    by_cases hin : i < tn T
    · obtain ⟨M, ih⟩ := zp_rows_L (N := N) (x3 := x3) h hT hc hx f (i + 1) (by omega) (by omega)
      refine ⟨M, ?_⟩
      rw [← ih]
      conv => lhs; unfold f_X4_rows_L82
      have n1 : μ.1 1 4 = nI (tn T) := h.1
      have l1 : (nI (tn T) ≤ nI i) = False := eq_false (nI_ge hin (by omega))
      have q1 := zp_isT (N := N) h (tok_g hT) (show i < 7 by omega)
      have q2 := zp_stay (N := N) h hT hc hin
      have e10 : (10 : Int32) - nI (zty T c i) = nI (10 - zty T c i) := by rw [show (10 : Int32) = nI 10 from rfl, nI_subN zty_le]
      have yes : (tg T).testBit i = true → zbf T tgt i = true → nI (zA0 T c tgt * zpd (zan T c tgt) (i + 1)) = nI (zA0 T c tgt * zpd (zan T c tgt) i) * (10 - nI (zty T c i)) ∧ nI (zD0 tgt * zpd (zad T tgt) (i + 1)) = nI (zD0 tgt * zpd (zad T tgt) i) * 10 := by
        intro g1 g2
        constructor
        · rw [e10, nI_mulN]
          exact congrArg nI (by
            show _ * (_ * (if (tg T).testBit i = true ∧ zbf T tgt i = true then 10 - zty T c i else 1)) = _
            rw [if_pos ⟨g1, g2⟩, Nat.mul_assoc])
        · rw [show (10 : Int32) = nI 10 from rfl, nI_mulN]
          exact congrArg nI (by
            show _ * (_ * (if (tg T).testBit i = true ∧ zbf T tgt i = true then 10 else 1)) = _
            rw [if_pos ⟨g1, g2⟩, Nat.mul_assoc])
      have no : ¬ ((tg T).testBit i = true ∧ zbf T tgt i = true) → nI (zA0 T c tgt * zpd (zan T c tgt) (i + 1)) = nI (zA0 T c tgt * zpd (zan T c tgt) i) ∧ nI (zD0 tgt * zpd (zad T tgt) (i + 1)) = nI (zD0 tgt * zpd (zad T tgt) i) := by
        intro g1
        constructor
        · exact congrArg nI (by
            show _ * (_ * (if (tg T).testBit i = true ∧ zbf T tgt i = true then 10 - zty T c i else 1)) = _
            rw [if_neg g1, Nat.mul_one])
        · exact congrArg nI (by
            show _ * (_ * (if (tg T).testBit i = true ∧ zbf T tgt i = true then 10 else 1)) = _
            rw [if_neg g1, Nat.mul_one])
      simp only [Nat.zero_add, n1, l1, if_false, q1, Option.bind_some, nI_1]
      by_cases hg : (tg T).testBit i = true
      · simp only [hg, if_true, zt10, if_false, q2, Option.bind_some]
        rcases hx with ⟨rfl, rfl⟩ | ⟨k, hk, rfl, rfl, rfl⟩
        · obtain ⟨y1, y2⟩ := yes hg rfl
          simp only [zt10, not_false_eq_true, if_true]
          rw [y1, y2]
        · have q3 := zp_before (N := N) h hT hk hin
          simp only [not_true_eq_false, if_false, q3, Option.bind_some]
          by_cases hb : zbf T (some k) i = true
          · obtain ⟨y1, y2⟩ := yes hg hb
            simp only [hb, if_true, zt10, if_false, q2, Option.bind_some]
            rw [y1, y2]
          · obtain ⟨y1, y2⟩ := no (fun q => hb q.2)
            simp only [hb, if_true, if_false, Bool.false_eq_true]
            rw [y1, y2]
      · obtain ⟨y1, y2⟩ := no (fun q => hg q.1)
        simp only [hg, if_true, if_false, Bool.false_eq_true]
        rw [y1, y2]
    · have : i = tn T := by omega
      subst this
      exact ⟨f, rfl⟩
