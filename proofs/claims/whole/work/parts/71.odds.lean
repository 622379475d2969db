-- odds: a sum over sets is a product
def zsm (P : Nat → Nat) : Nat → Nat
  | 0 => 0
  | k + 1 => zsm P k + P k
def zpd (q : Nat → Nat) : Nat → Nat
  | 0 => 1
  | k + 1 => zpd q k * q k
theorem zsm_c {P Q : Nat → Nat} : ∀ n, (∀ k, k < n → P k = Q k) → zsm P n = zsm Q n
  | 0, _ => rfl
  | n + 1, h => by
    show zsm P n + P n = zsm Q n + Q n
    rw [zsm_c n (fun k hk => h k (by omega)), h n (by omega)]
theorem zpd_c {P Q : Nat → Nat} : ∀ n, (∀ k, k < n → P k = Q k) → zpd P n = zpd Q n
  | 0, _ => rfl
  | n + 1, h => by
    show zpd P n * P n = zpd Q n * Q n
    rw [zpd_c n (fun k hk => h k (by omega)), h n (by omega)]
theorem zsm_a (P : Nat → Nat) (a : Nat) : ∀ b, zsm P (a + b) = zsm P a + zsm (fun k => P (a + k)) b
  | 0 => rfl
  | b + 1 => by
    show zsm P (a + b) + P (a + b) = zsm P a + (zsm (fun k => P (a + k)) b + P (a + b))
    rw [zsm_a P a b, Nat.add_assoc]
theorem zsm_x (P : Nat → Nat) (x : Nat) : ∀ n, zsm (fun k => P k * x) n = zsm P n * x
  | 0 => (Nat.zero_mul x).symm
  | n + 1 => by
    show zsm (fun k => P k * x) n + P n * x = (zsm P n + P n) * x
    rw [zsm_x P x n, Nat.add_mul]
theorem zsm_z {P : Nat → Nat} (a : Nat) : ∀ b, (∀ k, a ≤ k → k < a + b → P k = 0) → zsm P (a + b) = zsm P a
  | 0, _ => rfl
  | b + 1, h => by
    show zsm P (a + b) + P (a + b) = _
    rw [zsm_z a b (fun k k1 k2 => h k k1 (by omega)), h (a + b) (by omega) (by omega), Nat.add_zero]
theorem zadd2 {a b c d : Nat} (h : a = b) (k : c = d) : a + c = b + d := by rw [h, k]
theorem zsm_pd (q : Nat → Bool → Nat) : ∀ n, zsm (fun m => zpd (fun i => q i (m.testBit i)) n) (2 ^ n) = zpd (fun i => q i false + q i true) n
  | 0 => rfl
  | n + 1 => by
    have e1 : zsm (fun m => zpd (fun i => q i (m.testBit i)) (n + 1)) (2 ^ n) = zsm (fun m => zpd (fun i => q i (m.testBit i)) n * q n false) (2 ^ n) := zsm_c _ (fun k hk => by
      show zpd (fun i => q i (k.testBit i)) n * q n (k.testBit n) = _
      rw [Nat.testBit_lt_two_pow hk])
    have e2 : zsm (fun k => zpd (fun i => q i ((2 ^ n + k).testBit i)) (n + 1)) (2 ^ n) = zsm (fun m => zpd (fun i => q i (m.testBit i)) n * q n true) (2 ^ n) := zsm_c _ (fun k hk => by
      show zpd (fun i => q i ((2 ^ n + k).testBit i)) n * q n ((2 ^ n + k).testBit n) = _
      have e3 : zpd (fun i => q i ((2 ^ n + k).testBit i)) n = zpd (fun i => q i (k.testBit i)) n := zpd_c n (fun i hi => by
        show q i ((2 ^ n + k).testBit i) = q i (k.testBit i)
        rw [Nat.testBit_two_pow_add_gt hi])
      rw [e3, Nat.testBit_two_pow_add_eq, Nat.testBit_lt_two_pow hk]
      rfl)
    rw [show 2 ^ (n + 1) = 2 ^ n + 2 ^ n by rw [Nat.pow_succ]; omega]
    refine (zsm_a _ _ _).trans ((zadd2 e1 e2).trans ?_)
    rw [zsm_x, zsm_x, zsm_pd q n, ← Nat.mul_add]
    rfl
theorem zpd_le {q : Nat → Nat} : ∀ k, (∀ i, i < k → q i ≤ 10) → zpd q k ≤ 10 ^ k
  | 0, _ => Nat.le_refl _
  | k + 1, h => by
    rw [Nat.pow_succ]
    exact Nat.mul_le_mul (zpd_le k (fun i hi => h i (by omega))) (h k (by omega))
theorem zpd_pos {q : Nat → Nat} : ∀ k, (∀ i, i < k → 0 < q i) → 0 < zpd q k
  | 0, _ => Nat.one_pos
  | k + 1, h => Nat.mul_pos (zpd_pos k (fun i hi => h i (by omega))) (h k (by omega))
theorem zpd_zero {q : Nat → Nat} {b i : Nat} (h : b * zpd q i = 0) : ∀ r, b * zpd q (i + r) = 0
  | 0 => h
  | r + 1 => by
    show b * (zpd q (i + r) * q (i + r)) = 0
    rw [← Nat.mul_assoc, zpd_zero h r, Nat.zero_mul]
-- the weight of a set, and the town when those of a set are stirred
def zwt (c g m i : Nat) : Nat := if g.testBit i = true then (if m.testBit i = true then c else 10 - c) else 1
theorem zwt_le {c g m i : Nat} (hc : c ≤ 10) : zwt c g m i ≤ 10 := by
  unfold zwt
  split
  · split <;> omega
  · omega
def zstr (g m : Nat) (T : Tw) : Nat → Tw
  | 0 => T
  | i + 1 => if g.testBit i = true then zwo (zstr g m T i) i (tt (zstr g m T i) i + (if m.testBit i = true then 10 else 0)) else zstr g m T i
theorem zwo_n {T : Tw} {i v : Nat} : tn (zwo T i v) = tn T := by
  unfold zwo
  split <;> rfl
theorem zwo_w {T : Tw} {i v : Nat} : tw (zwo T i v) = tw T := by
  unfold zwo
  split <;> rfl
theorem zwo_t {T : Tw} {i v j : Nat} (h : j ≠ i) : tt (zwo T i v) j = tt T j := by
  unfold zwo
  split
  · exact upN_n h
  · exact upN_n h
theorem zwo_g {T : Tw} {i v : Nat} (h : to_ T i ≤ 99) : tg (zwo T i v) = if 19 < v then zp_clr (tg T) i else tg T := by
  unfold zwo
  by_cases e : 19 < v
  · rw [if_pos (Or.inl e), if_pos e]
  · rw [if_neg (by omega), if_neg e]
theorem zstr_all {g m : Nat} {T : Tw} (hT : tok T) : ∀ k, k ≤ tn T → tok (zstr g m T k) ∧ tn (zstr g m T k) = tn T ∧ tw (zstr g m T k) = tw T ∧ (∀ j, k ≤ j → tt (zstr g m T k) j = tt T j) ∧ ∀ j, j < 7 → (tg (zstr g m T k)).testBit j = ((tg T).testBit j && !(decide (j < k) && (g.testBit j && (m.testBit j && decide (9 < tt T j)))))
  | 0, _ => ⟨hT, rfl, rfl, fun _ _ => rfl, fun j _ => by
      show (tg T).testBit j = _
      rw [decide_eq_false (Nat.not_lt_zero j)]
      simp⟩
  | k + 1, hk => by
    obtain ⟨h1, h2, h3, h4, h5⟩ := zstr_all (g := g) (m := m) hT k (by omega)
    have h7 := hT.1
    have hkt := (hT.2.2.2 k (by omega)).2.2.2
    have hko := (h1.2.2.2 k (by omega)).2.2.1
    show tok (if g.testBit k = true then zwo (zstr g m T k) k (tt (zstr g m T k) k + (if m.testBit k = true then 10 else 0)) else zstr g m T k) ∧ tn (if g.testBit k = true then zwo (zstr g m T k) k (tt (zstr g m T k) k + (if m.testBit k = true then 10 else 0)) else zstr g m T k) = tn T ∧ tw (if g.testBit k = true then zwo (zstr g m T k) k (tt (zstr g m T k) k + (if m.testBit k = true then 10 else 0)) else zstr g m T k) = tw T ∧ (∀ j, k + 1 ≤ j → tt (if g.testBit k = true then zwo (zstr g m T k) k (tt (zstr g m T k) k + (if m.testBit k = true then 10 else 0)) else zstr g m T k) j = tt T j) ∧ ∀ j, j < 7 → (tg (if g.testBit k = true then zwo (zstr g m T k) k (tt (zstr g m T k) k + (if m.testBit k = true then 10 else 0)) else zstr g m T k)).testBit j = _
    rw [h4 k (Nat.le_refl _)]
    have same : ∀ j, j ≠ k → decide (j < k + 1) = decide (j < k) := fun j hj => decide_eq_decide.mpr (by omega)
    have at_k : decide (k < k + 1) = true := decide_eq_true (by omega)
    have no_k : decide (k < k) = false := decide_eq_false (by omega)
    cases hg : g.testBit k with
    | false =>
      simp only [Bool.false_eq_true, if_false]
      refine ⟨h1, h2, h3, fun j hj => h4 j (by omega), fun j hj => ?_⟩
      rw [h5 j hj]
      by_cases e : j = k
      · subst e
        rw [hg]
        simp
      · rw [same j e]
    | true =>
      simp only [if_true]
      refine ⟨tok_wo h1, zwo_n.trans h2, zwo_w.trans h3, fun j hj => (zwo_t (by omega)).trans (h4 j (by omega)), fun j hj => ?_⟩
      rw [zwo_g hko]
      cases hm : m.testBit k with
      | false =>
        simp only [Bool.false_eq_true, if_false]
        rw [if_neg (by omega), h5 j hj]
        by_cases e : j = k
        · subst e
          rw [hm]
          simp
        · rw [same j e]
      | true =>
        simp only [if_true]
        by_cases ht : 9 < tt T k
        · rw [if_pos (by omega), zp_clr_bit _ (tok_g h1) k (by omega) j hj, h5 j hj]
          by_cases e : j = k
          · subst e
            rw [hg, hm, at_k, decide_eq_true ht]
            simp
          · rw [same j e, decide_eq_true e, Bool.and_true]
        · rw [if_neg (by omega), h5 j hj]
          by_cases e : j = k
          · subst e
            rw [decide_eq_false ht]
            simp
          · rw [same j e]
-- what must be at each, that one has the keys (or none)
def zbf (T : Tw) (tgt : Option Nat) (i : Nat) : Bool := match tgt with
  | none => true
  | some c => decide (tw T c < tw T i ∨ (tw T i = tw T c ∧ i < c))
def zgd (T : Tw) (tgt : Option Nat) (i : Nat) (b : Bool) : Bool :=
  if tgt = some i then !(b && decide (9 < tt T i)) else if zbf T tgt i = true then (b && decide (9 < tt T i)) else true
def zqf (c : Nat) (T : Tw) (tgt : Option Nat) (i : Nat) (b : Bool) : Nat := if (tg T).testBit i = true then (if b = true then c else 10 - c) * (zgd T tgt i b).toNat else (if b = true then 0 else (decide (tgt ≠ some i)).toNat)
def zsb (g m : Nat) : Nat → Bool
  | 0 => true
  | k + 1 => zsb g m k && (!m.testBit k || g.testBit k)
def zag (T : Tw) (tgt : Option Nat) (m : Nat) : Nat → Bool
  | 0 => true
  | k + 1 => zag T tgt m k && (if (tg T).testBit k = true then zgd T tgt k (m.testBit k) else decide (tgt ≠ some k))
theorem zqf_pd {c m : Nat} {T : Tw} {tgt : Option Nat} : ∀ k, zpd (fun i => zqf c T tgt i (m.testBit i)) k = (zsb (tg T) m k).toNat * zpd (zwt c (tg T) m) k * (zag T tgt m k).toNat
  | 0 => rfl
  | k + 1 => by
    show zpd (fun i => zqf c T tgt i (m.testBit i)) k * zqf c T tgt k (m.testBit k) = (zsb (tg T) m k && (!m.testBit k || (tg T).testBit k)).toNat * (zpd (zwt c (tg T) m) k * zwt c (tg T) m k) * (zag T tgt m k && (if (tg T).testBit k = true then zgd T tgt k (m.testBit k) else decide (tgt ≠ some k))).toNat
    rw [zqf_pd k]
    unfold zqf zwt
    generalize zpd (fun i => if (tg T).testBit i = true then if m.testBit i = true then c else 10 - c else 1) k = W
    generalize zsb (tg T) m k = A
    generalize zag T tgt m k = Z
    generalize zgd T tgt k (m.testBit k) = G
    generalize decide (tgt ≠ some k) = E
    generalize 10 - c = x
    cases (tg T).testBit k <;> cases m.testBit k <;> cases A <;> cases Z <;> cases G <;> cases E <;> simp
theorem zsb_iff {g m : Nat} : ∀ k, zsb g m k = true ↔ ∀ i, i < k → m.testBit i = true → g.testBit i = true
  | 0 => ⟨fun _ i hi => absurd hi (Nat.not_lt_zero i), fun _ => rfl⟩
  | k + 1 => by
    show (zsb g m k && (!m.testBit k || g.testBit k)) = true ↔ _
    rw [Bool.and_eq_true, zsb_iff k]
    constructor
    · intro ⟨h1, h2⟩ i hi hm
      by_cases e : i = k
      · subst e
        rw [hm] at h2
        simpa using h2
      · exact h1 i (by omega) hm
    · intro h
      refine ⟨fun i hi => h i (by omega), ?_⟩
      cases hm : m.testBit k with
      | false => rfl
      | true => rw [h k (by omega) hm]; rfl
theorem zag_iff {T : Tw} {tgt : Option Nat} {m : Nat} : ∀ k, zag T tgt m k = true ↔ ∀ i, i < k → (if (tg T).testBit i = true then zgd T tgt i (m.testBit i) else decide (tgt ≠ some i)) = true
  | 0 => ⟨fun _ i hi => absurd hi (Nat.not_lt_zero i), fun _ => rfl⟩
  | k + 1 => by
    show (zag T tgt m k && _) = true ↔ _
    rw [Bool.and_eq_true, zag_iff k]
    constructor
    · intro ⟨h1, h2⟩ i hi
      by_cases e : i = k
      · subst e
        exact h2
      · exact h1 i (by omega)
    · intro h
      exact ⟨fun i hi => h i (by omega), h k (by omega)⟩
theorem zsb_le {g m n : Nat} (hm : m < 2 ^ n) (h : zsb g m n = true) : m &&& g = m := by
  apply Nat.eq_of_testBit_eq
  intro i
  rw [Nat.testBit_and]
  cases hb : m.testBit i with
  | false => rfl
  | true =>
    by_cases hi : i < n
    · rw [(zsb_iff n).mp h i hi hb]; rfl
    · have : m < 2 ^ i := Nat.lt_of_lt_of_le hm (Nat.pow_le_pow_right (by decide) (by omega))
      rw [Nat.testBit_lt_two_pow this] at hb
      cases hb
theorem zsb_e {g m n : Nat} (hm : m < 2 ^ n) : zsb g m n = true ↔ m &&& g = m := by
  refine ⟨zsb_le hm, fun h => (zsb_iff n).mpr (fun i _ hb => ?_)⟩
  rw [← h, Nat.testBit_and, Bool.and_eq_true] at hb
  exact hb.2
theorem zkp_iff {T : Tw} {tgt : Option Nat} {m : Nat} (hT : tok T) (ht : ∀ k, tgt = some k → k < tn T) : kp (zstr (tg T) m T (tn T)) = tgt ↔ zag T tgt m (tn T) = true := by
  obtain ⟨_, h2, h3, _, h5⟩ := zstr_all (g := tg T) (m := m) hT (tn T) (Nat.le_refl _)
  have h7 := hT.1
  have hR : ∀ j, j < tn T → (tg (zstr (tg T) m T (tn T))).testBit j = ((tg T).testBit j && !(m.testBit j && decide (9 < tt T j))) := by
    intro j hj
    rw [h5 j (by omega), decide_eq_true hj]
    cases (tg T).testBit j <;> simp
  unfold kp
  rw [h3, h2]
  generalize tg (zstr (tg T) m T (tn T)) = R at hR
  have hb : lon (tw T) R (tn T) = tgt ↔ zp_best (tw T) R 0 (tn T) tgt := ⟨fun q => by rw [← q]; exact lon_best _ _ _, fun q => zp_best_one (lon_best _ _ _) q⟩
  rw [hb, zag_iff]
  cases tgt with
  | none =>
    constructor
    · intro h i hi
      have := h i (Nat.zero_le _) hi
      rw [hR i hi] at this
      unfold zgd zbf
      cases hg : (tg T).testBit i with
      | false => simp
      | true =>
        rw [hg] at this
        simp only [Bool.true_and, Bool.not_eq_false'] at this
        simp only [if_true, reduceCtorEq, if_false]
        exact this
    · intro h j _ hj
      have := h j hj
      unfold zgd zbf at this
      rw [hR j hj]
      cases hg : (tg T).testBit j with
      | false => rfl
      | true =>
        rw [hg] at this
        simp only [if_true, reduceCtorEq, if_false] at this
        rw [this]
        rfl
  | some c =>
    have hc := ht c rfl
    constructor
    · rintro ⟨_, _, k3, k4⟩ i hi
      rw [hR c hc, Bool.and_eq_true] at k3
      cases hg : (tg T).testBit i with
      | false =>
        simp only [Bool.false_eq_true, if_false]
        refine decide_eq_true (fun q => ?_)
        cases q
        rw [hg] at k3
        exact absurd k3.1 (by decide)
      | true =>
        simp only [if_true]
        unfold zgd
        by_cases e : some c = some i
        · rw [if_pos e]
          cases e
          exact k3.2
        · rw [if_neg e]
          by_cases e2 : zbf T (some c) i = true
          · rw [if_pos e2]
            have e2 := of_decide_eq_true e2
            cases hs : (m.testBit i && decide (9 < tt T i)) with
            | true => rfl
            | false =>
              have := k4 i (Nat.zero_le _) hi (by rw [hR i hi, hg, hs]; rfl)
              exfalso
              rcases e2 with e2 | e2
              · omega
              · have := this.2 e2.2
                omega
          · rw [if_neg e2]
    · intro h
      have hcc := h c hc
      have gc : (tg T).testBit c = true := by
        cases hg : (tg T).testBit c with
        | true => rfl
        | false =>
          rw [hg] at hcc
          simp at hcc
      rw [gc] at hcc
      simp only [if_true, zgd] at hcc
      refine ⟨Nat.zero_le _, hc, by rw [hR c hc, gc, hcc]; rfl, fun j _ hj hb => ?_⟩
      rw [hR j hj, Bool.and_eq_true] at hb
      have hj2 := h j hj
      rw [hb.1] at hj2
      simp only [if_true, zgd] at hj2
      by_cases e : some c = some j
      · cases e
        exact ⟨Nat.le_refl _, fun q => absurd q (Nat.lt_irrefl _)⟩
      · rw [if_neg e] at hj2
        by_cases e2 : zbf T (some c) j = true
        · rw [if_pos e2] at hj2
          have := hb.2
          rw [hj2] at this
          exact absurd this (by decide)
        · have e2 : ¬ (tw T c < tw T j ∨ (tw T j = tw T c ∧ j < c)) := fun q => e2 (decide_eq_true q)
          exact ⟨by omega, fun q => by omega⟩
-- lowest terms
theorem zfrac {a d a' d' : Nat} (hd : 0 < d) (hd' : 0 < d') (h : a * d' = a' * d) : a / Nat.gcd a d = a' / Nat.gcd a' d' ∧ d / Nat.gcd a d = d' / Nat.gcd a' d' := by
  have p1 : 0 < Nat.gcd a d := Nat.gcd_pos_of_pos_right _ hd
  have p2 : 0 < Nat.gcd a' d' := Nat.gcd_pos_of_pos_right _ hd'
  have k : Nat.gcd a d * d' = Nat.gcd a' d' * d := by
    rw [← Nat.gcd_mul_right, ← Nat.gcd_mul_right, h, Nat.mul_comm d d']
  obtain ⟨x, hx⟩ := Nat.gcd_dvd_left a d
  obtain ⟨u, hu⟩ := Nat.gcd_dvd_right a d
  obtain ⟨y, hy⟩ := Nat.gcd_dvd_left a' d'
  obtain ⟨v, hv⟩ := Nat.gcd_dvd_right a' d'
  generalize Nat.gcd a d = g1 at *
  generalize Nat.gcd a' d' = g2 at *
  have ex : x = y := by
    have e : (g1 * d') * x = (g1 * d') * y := by
      calc (g1 * d') * x = (g1 * x) * d' := by ac_rfl
        _ = a * d' := by rw [← hx]
        _ = a' * d := h
        _ = (g2 * y) * d := by rw [← hy]
        _ = (g2 * d) * y := by ac_rfl
        _ = (g1 * d') * y := by rw [k]
    exact Nat.eq_of_mul_eq_mul_left (Nat.mul_pos p1 hd') e
  have eu : u = v := by
    have e : (g1 * g2) * u = (g1 * g2) * v := by
      calc (g1 * g2) * u = g2 * (g1 * u) := by ac_rfl
        _ = g2 * d := by rw [← hu]
        _ = g1 * d' := k.symm
        _ = g1 * (g2 * v) := by rw [← hv]
        _ = (g1 * g2) * v := by ac_rfl
    exact Nat.eq_of_mul_eq_mul_left (Nat.mul_pos p1 p2) e
  subst ex eu
  refine ⟨?_, ?_⟩
  · rw [hx, hy, Nat.mul_div_cancel_left _ p1, Nat.mul_div_cancel_left _ p2]
  · rw [hu, hv, Nat.mul_div_cancel_left _ p1, Nat.mul_div_cancel_left _ p2]
