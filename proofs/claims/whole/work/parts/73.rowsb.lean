-- rows, the other's side
def zP (c : Nat) (T : Tw) (tgt : Option Nat) (m : Nat) : Nat := (zsb (tg T) m (tn T)).toNat * zpd (zwt c (tg T) m) (tn T) * (zag T tgt m (tn T)).toNat
theorem zP_sum {c : Nat} {T : Tw} {tgt : Option Nat} (hT : tok T) : zsm (zP c T tgt) (tg T + 1) = zpd (zas c T tgt) (tn T) := by
  have hg := hT.2.1
  have e1 : zsm (zP c T tgt) (2 ^ tn T) = zsm (zP c T tgt) (tg T + 1) := by
    have := zsm_z (P := zP c T tgt) (tg T + 1) (2 ^ tn T - (tg T + 1)) (fun k k1 k2 => by
      have hk : k < 2 ^ tn T := by omega
      have hz : zsb (tg T) k (tn T) = false := by
        cases h : zsb (tg T) k (tn T) with
        | false => rfl
        | true =>
          have h1 := zsb_le hk h
          have h2 : k &&& tg T ≤ tg T := Nat.and_le_right
          omega
      unfold zP
      rw [hz]
      simp)
    rw [show tg T + 1 + (2 ^ tn T - (tg T + 1)) = 2 ^ tn T by omega] at this
    exact this
  rw [← e1]
  have e2 : zsm (zP c T tgt) (2 ^ tn T) = zsm (fun m => zpd (fun i => zqf c T tgt i (m.testBit i)) (tn T)) (2 ^ tn T) := zsm_c _ (fun m _ => (zqf_pd (tn T)).symm)
  rw [e2]
  exact zsm_pd (zqf c T tgt) (tn T)
theorem zW_le {c g m b i : Nat} (hc : c ≤ 10) (hb : b ≤ 1) (hi : i ≤ 7) : b * zpd (zwt c g m) i ≤ 10000000 := by
  have h1 : zpd (zwt c g m) i ≤ 10 ^ i := zpd_le i (fun j _ => zwt_le hc)
  have h2 : 10 ^ i ≤ 10 ^ 7 := Nat.pow_le_pow_right (by decide) hi
  have h3 : b * zpd (zwt c g m) i ≤ 1 * 10 ^ 7 := Nat.mul_le_mul hb (Nat.le_trans h1 h2)
  exact h3
theorem zq_83_L {N c m b1 : Nat} {T : Tw} {x1 x3 x5 x6 : Int32} (hb : b1 ≤ 1) (hT : tok T) (hc : c ≤ 10) (hm : m < 128) : ∀ (f i : Nat) (ν : ZM), tn T < i + f → i ≤ tn T → RT ν 1 0 T → RT ν 2 0 (zstr (tg T) m T i) → ∃ (W : Nat) (U : Tw) (ν' : ZM), (∀ kx, f_X5_rows_L83 N kx f 0 x1 (nI c) x3 (nI (tg T)) x5 x6 (nI m) (nI (b1 * zpd (zwt c (tg T) m) i)) (nI i) ν = kx 0 x1 (nI c) x3 (nI (tg T)) x5 x6 (nI m) (nI W) ν') ∧ RT ν' 2 0 U ∧ tok U ∧ tn U = tn T ∧ zq_Fr 2 ν ν' ∧ ((W = 0 ∧ b1 * zpd (zwt c (tg T) m) (tn T) = 0) ∨ (W = b1 * zpd (zwt c (tg T) m) (tn T) ∧ U = zstr (tg T) m T (tn T)))
  | 0, i, ν, hf, hi, h1, h2 => absurd hf (by omega)
  | f + 1, i, ν, hf, hi, h1, h2 => by
    have h7 := hT.1
    obtain ⟨k1, k2, k3, k4, k5⟩ := zstr_all (g := tg T) (m := m) hT i hi
    have n1 : ν.1 1 0 = nI (tn T) := h1.1
    by_cases hin : i < tn T
    · have l1 : (nI (tn T) ≤ nI i) = False := eq_false (nI_ge hin (by omega))
      have hW := zW_le (g := tg T) (m := m) hc hb (show i ≤ 7 by omega)
      by_cases w0 : b1 * zpd (zwt c (tg T) m) i = 0
      · refine ⟨0, zstr (tg T) m T i, ν, fun kx => ?_, h2, k1, k2, zq_Fr.rf, Or.inl ⟨rfl, ?_⟩⟩
        · unfold f_X5_rows_L83
          have l2 : (nI (b1 * zpd (zwt c (tg T) m) i) ≤ 0) = True := eq_true (by rw [w0]; decide)
          simp only [Nat.zero_add, n1, l1, l2, if_false, if_true]
          rw [w0]
        · have := zpd_zero w0 (tn T - i)
          rw [show i + (tn T - i) = tn T by omega] at this
          exact this
      · have l2 : (nI (b1 * zpd (zwt c (tg T) m) i) ≤ 0) = False := eq_false (nI_ge (a := 0) (by omega) (by omega))
        have q1 := zq_has (N := N) (ν := ν) (tok_g hT) (show i < 7 by omega)
        cases hg : (tg T).testBit i with
        | false =>
          have es : zstr (tg T) m T (i + 1) = zstr (tg T) m T i := if_neg (by rw [hg]; decide)
          have ew : b1 * zpd (zwt c (tg T) m) (i + 1) = b1 * zpd (zwt c (tg T) m) i := by
            show b1 * (_ * (if (tg T).testBit i = true then _ else 1)) = _
            rw [hg, if_neg (by decide), Nat.mul_one]
          obtain ⟨W, U, ν', a1, a2, a3, a3', a4, a5⟩ := zq_83_L (N := N) (c := c) (x1 := x1) (x3 := x3) (x5 := x5) (x6 := x6) hb hT hc hm f (i + 1) ν (by omega) (by omega) h1 (by rw [es]; exact h2)
          rw [ew] at a1
          refine ⟨W, U, ν', fun kx => ?_, a2, a3, a3', a4, a5⟩
          rw [← a1 kx]
          conv => lhs; unfold f_X5_rows_L83
          simp only [Nat.zero_add, n1, l1, l2, if_false, q1, Option.bind_some, hg, Bool.false_eq_true, if_true, nI_1]
        | true =>
          have q2 := zq_has (N := N) (ν := ν) hm (show i < 7 by omega)
          have e10 : (10 : Int32) - nI c = nI (10 - c) := by rw [show (10 : Int32) = nI 10 from rfl, nI_subN hc]
          have ti : i < tn (zstr (tg T) m T i) := by rw [k2]; exact hin
          cases hmb : m.testBit i with
          | false =>
            obtain ⟨ν1, g1, d1, s1⟩ := zq_stir (N := N) (n := 0) h2 k1 ti (by omega)
            have g1 : f_X5_stirOn N 2 (nI i) 0 ν = some ν1 := g1
            have es : zstr (tg T) m T (i + 1) = zwo (zstr (tg T) m T i) i (tt (zstr (tg T) m T i) i + 0) := by
              show (if (tg T).testBit i = true then zwo _ i (_ + (if m.testBit i = true then 10 else 0)) else _) = _
              rw [if_pos hg, hmb, if_neg (by decide)]
            have ew : b1 * zpd (zwt c (tg T) m) (i + 1) = b1 * zpd (zwt c (tg T) m) i * (10 - c) := by
              show b1 * (_ * (if (tg T).testBit i = true then (if m.testBit i = true then c else 10 - c) else 1)) = _
              rw [if_pos hg, hmb, if_neg (by decide), Nat.mul_assoc]
            obtain ⟨W, U, ν', a1, a2, a3, a3', a4, a5⟩ := zq_83_L (N := N) (c := c) (x1 := x1) (x3 := x3) (x5 := x5) (x6 := x6) hb hT hc hm f (i + 1) ν1 (by omega) (by omega) (h1.fr (s1.1 1 (by decide) (by decide))) (by rw [es]; exact d1)
            rw [ew] at a1
            refine ⟨W, U, ν', fun kx => ?_, a2, a3, a3', s1.tr a4, a5⟩
            rw [← a1 kx]
            conv => lhs; unfold f_X5_rows_L83
            simp only [Nat.zero_add, n1, l1, l2, if_false, q1, q2, Option.bind_some, hg, hmb, Bool.false_eq_true, if_true, zt10, nI_1, e10, nI_mulN, g1]
          | true =>
            obtain ⟨ν1, g1, d1, s1⟩ := zq_stir (N := N) (n := 10) h2 k1 ti (by omega)
            have g1 : f_X5_stirOn N 2 (nI i) 10 ν = some ν1 := g1
            have es : zstr (tg T) m T (i + 1) = zwo (zstr (tg T) m T i) i (tt (zstr (tg T) m T i) i + 10) := by
              show (if (tg T).testBit i = true then zwo _ i (_ + (if m.testBit i = true then 10 else 0)) else _) = _
              rw [if_pos hg, if_pos hmb]
            have ew : b1 * zpd (zwt c (tg T) m) (i + 1) = b1 * zpd (zwt c (tg T) m) i * c := by
              show b1 * (_ * (if (tg T).testBit i = true then (if m.testBit i = true then c else 10 - c) else 1)) = _
              rw [if_pos hg, if_pos hmb, Nat.mul_assoc]
            obtain ⟨W, U, ν', a1, a2, a3, a3', a4, a5⟩ := zq_83_L (N := N) (c := c) (x1 := x1) (x3 := x3) (x5 := x5) (x6 := x6) hb hT hc hm f (i + 1) ν1 (by omega) (by omega) (h1.fr (s1.1 1 (by decide) (by decide))) (by rw [es]; exact d1)
            rw [ew] at a1
            refine ⟨W, U, ν', fun kx => ?_, a2, a3, a3', s1.tr a4, a5⟩
            rw [← a1 kx]
            conv => lhs; unfold f_X5_rows_L83
            simp only [Nat.zero_add, n1, l1, l2, if_false, q1, q2, Option.bind_some, hg, hmb, Bool.false_eq_true, if_true, zt10, nI_1, nI_mulN, g1]
    · have : i = tn T := by omega
      subst this
      refine ⟨_, _, ν, fun kx => ?_, h2, k1, k2, zq_Fr.rf, Or.inr ⟨rfl, rfl⟩⟩
      unfold f_X5_rows_L83
      have l1 : (nI (tn T) ≤ nI (tn T)) = True := eq_true (nI_le (Nat.le_refl _) (by omega))
      simp only [Nat.zero_add, n1, l1, if_true]
theorem zr_sub {m g n : Nat} (hm : m < 2 ^ n) (hn : n ≤ 7) (hg : g < 128) : (nI m &&& (nI g ^^^ (-1)) = 0) ↔ zsb g m n = true := by
  have hm128 : m < 128 := Nat.lt_of_lt_of_le hm (Nat.pow_le_pow_right (by decide) hn)
  rw [zsub_e m hm128 g hg, zsb_e hm]
  have h1 : m &&& g ≤ m := Nat.and_le_left
  unfold zsub
  constructor
  · intro q
    have := (nI_eq (b := 0) (by omega) (by omega)).mp q
    omega
  · intro q
    rw [q, Nat.sub_self]
    rfl
theorem zq_52_L {N c : Nat} {T : Tw} {tgt : Option Nat} {x1 x3 : Int32} (hN : 300 ≤ N) (hT : tok T) (hc : c ≤ 10) (hx : (x1 = -1 ∧ tgt = none) ∨ ∃ k, k < tn T ∧ x1 = nI k ∧ tgt = some k) : ∀ (f m : Nat) (ν : ZM), tg T + 1 < m + f → m ≤ tg T + 1 → RT ν 1 0 T → ∃ ν', f_X5_rows_L52 N f 0 x1 (nI c) x3 (nI (tg T)) (nI (zsm (zP c T tgt) m)) 1 (nI m) ν = f_X5_rows_L204 N N 0 x3 (nI (tg T)) (nI (zsm (zP c T tgt) (tg T + 1))) 1 0 ν' ∧ zq_Fr 2 ν ν'
  | 0, m, ν, hf, hm, hr => absurd hf (by omega)
  | f + 1, m, ν, hf, hm, hr => by
    have h7 := hT.1
    have hg := tok_g hT
    unfold f_X5_rows_L52
    by_cases hin : m ≤ tg T
    · have l1 : (nI (tg T) < nI m) = False := eq_false (nI_nlt (by omega) (by omega))
      have hm2 : m < 2 ^ tn T := Nat.lt_of_le_of_lt hin hT.2.1
      have ht : ∀ k, tgt = some k → k < tn T := by
        intro k hk
        rcases hx with ⟨_, q⟩ | ⟨j, hj, _, q⟩
        · rw [q] at hk; cases hk
        · rw [q] at hk; cases hk; exact hj
      obtain ⟨ν1, g1, e1, s1⟩ := zq_take (N := N) (by omega) hr hT
      simp only [l1, if_false, g1, Option.bind_some]
      have key : ∀ b1 : Nat, b1 ≤ 1 → b1 = (zsb (tg T) m (tn T)).toNat → ∀ y : Int32, y = nI (b1 * zpd (zwt c (tg T) m) 0) → ∃ ν', f_X5_rows_L83 N (fun a3 a4 a5 a6 a7 a8 a9 a10 a11 μ12 =>
          (f_X5_keysOf N (a3 + 2) μ12).bind fun r13 =>
            if ¬ a4 = (-1 : Int32) then
              if ¬ r13.1 = a4 then f_X5_rows_L52 N f a3 a4 a5 a6 a7 (a8 + 0) a9 (a10 + 1) r13.2
              else f_X5_rows_L52 N f a3 a4 a5 a6 a7 (a8 + a11) a9 (a10 + 1) r13.2
            else
              if ¬ r13.1 = (-4 : Int32) then f_X5_rows_L52 N f a3 a4 a5 a6 a7 (a8 + 0) a9 (a10 + 1) r13.2
              else f_X5_rows_L52 N f a3 a4 a5 a6 a7 (a8 + a11) a9 (a10 + 1) r13.2) N 0 x1 (nI c) x3 (nI (tg T)) (nI (zsm (zP c T tgt) m)) 1 (nI m) y 0 ν1 = f_X5_rows_L204 N N 0 x3 (nI (tg T)) (nI (zsm (zP c T tgt) (tg T + 1))) 1 0 ν' ∧ zq_Fr 2 ν ν' := by
        intro b1 hb hb1 y hy
        subst hy
        obtain ⟨W, U, ν2, a1, a2, a3, a3', a4, a5⟩ := zq_83_L (N := N) (c := c) (x1 := x1) (x3 := x3) (x5 := nI (zsm (zP c T tgt) m)) (x6 := 1) hb hT hc (show m < 128 by omega) N 0 ν1 (by omega) (by omega) (hr.fr (s1.1 1 (by decide) (by decide))) e1
        have a1 := a1 (fun a3 a4 a5 a6 a7 a8 a9 a10 a11 μ12 =>
          (f_X5_keysOf N (a3 + 2) μ12).bind fun r13 =>
            if ¬ a4 = (-1 : Int32) then
              if ¬ r13.1 = a4 then f_X5_rows_L52 N f a3 a4 a5 a6 a7 (a8 + 0) a9 (a10 + 1) r13.2
              else f_X5_rows_L52 N f a3 a4 a5 a6 a7 (a8 + a11) a9 (a10 + 1) r13.2
            else
              if ¬ r13.1 = (-4 : Int32) then f_X5_rows_L52 N f a3 a4 a5 a6 a7 (a8 + 0) a9 (a10 + 1) r13.2
              else f_X5_rows_L52 N f a3 a4 a5 a6 a7 (a8 + a11) a9 (a10 + 1) r13.2)
        have S : zq_Fr 2 ν ν2 := s1.tr a4
        obtain ⟨ν', i1, i2⟩ := zq_52_L (N := N) (x3 := x3) hN hT hc hx f (m + 1) ν2 (by omega) (by omega) (hr.fr (S.1 1 (by decide) (by decide)))
        refine ⟨ν', Eq.trans a1 ?_, S.tr i2⟩
        rw [← i1]
        have U7 := a3.1
        have kl : ∀ k, kp U = some k → k < 7 := fun k hk => by
          have := (kp_lt hk).1
          omega
        have hV : zP c T tgt m = if kp U = tgt then W else 0 := by
          unfold zP
          rw [← hb1]
          rcases a5 with ⟨w0, t0⟩ | ⟨w0, u0⟩
          · rw [t0, w0, Nat.zero_mul, ite_self]
          · rw [u0, w0]
            by_cases q : kp (zstr (tg T) m T (tn T)) = tgt
            · rw [if_pos q, (zkp_iff hT ht).mp q]
              exact Nat.mul_one _
            · have : zag T tgt m (tn T) = false := by
                cases hz : zag T tgt m (tn T) with
                | false => rfl
                | true => exact absurd ((zkp_iff hT ht).mpr hz) q
              rw [if_neg q, this]
              exact Nat.mul_zero _
        have hsum : zsm (zP c T tgt) (m + 1) = zsm (zP c T tgt) m + zP c T tgt m := rfl
        have a0 : nI (zsm (zP c T tgt) m) + 0 = nI (zsm (zP c T tgt) m + 0) := by
          rw [show (0 : Int32) = nI 0 from rfl, nI_add]
        rw [hsum, hV]
        simp only [Nat.zero_add, zq_keys (show 8 ≤ N by omega) a2 a3, Option.bind_some, nI_1, a0, nI_add]
        rcases hx with ⟨rfl, rfl⟩ | ⟨k, hk, rfl, rfl⟩
        · simp only [not_true_eq_false, if_false]
          by_cases q : kp U = none
          · have c1 : zp_cd (kp U) = -4 := by rw [q]; rfl
            rw [if_neg (fun w => w c1), if_pos q]
          · have c1 : ¬ zp_cd (kp U) = -4 := by
              cases hu : kp U with
              | none => exact absurd hu q
              | some j => exact zp_cd_ne (kl j hu)
            rw [if_pos c1, if_neg q]
        · have xk : (nI k = -1) = False := eq_false (fun w => nI_pos (show k < 2 ^ 31 by omega) (by rw [w]; decide))
          have ce : nI k = zp_cd (kp U) ↔ kp U = some k := zp_cd_eq (by omega) kl
          simp only [xk, not_false_eq_true, if_true]
          by_cases q : kp U = some k
          · rw [if_neg (fun w => w (ce.mpr q).symm), if_pos q]
          · rw [if_pos (fun w => q (ce.mp w.symm)), if_neg q]
      have hsub := zr_sub hm2 h7 hg
      cases hz : zsb (tg T) m (tn T) with
      | true =>
        have q : (nI m &&& (nI (tg T) ^^^ (-1)) = 0) = True := eq_true (hsub.mpr hz)
        simp only [q, not_true_eq_false, if_false]
        exact key 1 (by omega) (by rw [hz]; rfl) 1 rfl
      | false =>
        have q : (nI m &&& (nI (tg T) ^^^ (-1)) = 0) = False := eq_false (fun w => by rw [hsub.mp w] at hz; cases hz)
        simp only [q, not_false_eq_true, if_true]
        exact key 0 (by omega) (by rw [hz]; rfl) 0 rfl
    · have : m = tg T + 1 := by omega
      subst this
      have l1 : (nI (tg T) < nI (tg T + 1)) = True := eq_true (nI_lt (by omega) (by omega))
      simp only [l1, if_true]
      exact ⟨ν, rfl, zq_Fr.rf⟩
theorem zq_204_L {N : Nat} {T : Tw} {x3 x5 : Int32} {ν : ZM} (hT : tok T) (hr : RT ν 1 0 T) : ∀ (f i : Nat), tn T < i + f → i ≤ tn T → f_X5_rows_L204 N f 0 x3 (nI (tg T)) x5 (nI (zpd (zaD T) i)) (nI i) ν = f_X5_rows_L250 N N x3 x5 (nI (zpd (zaD T) (tn T))) x5 (nI (zpd (zaD T) (tn T))) ν
  | 0, i, hf, hi => absurd hf (by omega)
  | f + 1, i, hf, hi => by
    have h7 := hT.1
    have n1 : ν.1 1 0 = nI (tn T) := hr.1
    conv => lhs; unfold f_X5_rows_L204
    by_cases hin : i < tn T
    · have l1 : (nI (tn T) ≤ nI i) = False := eq_false (nI_ge hin (by omega))
      have q1 := zq_has (N := N) (ν := ν) (tok_g hT) (show i < 7 by omega)
      have ih := zq_204_L (N := N) (x3 := x3) (x5 := x5) hT hr f (i + 1) (by omega) (by omega)
      simp only [Nat.zero_add, n1, l1, if_false, q1, Option.bind_some, nI_1]
      rw [← ih]
      cases hg : (tg T).testBit i with
      | false =>
        have e : zpd (zaD T) (i + 1) = zpd (zaD T) i * 1 := by
          show _ * (if (tg T).testBit i = true then 10 else 1) = _
          rw [hg, if_neg (by decide)]
        simp only [Bool.false_eq_true, if_false, if_true]
        rw [e, ← nI_mulN]
        rfl
      | true =>
        have e : zpd (zaD T) (i + 1) = zpd (zaD T) i * 10 := by
          show _ * (if (tg T).testBit i = true then 10 else 1) = _
          rw [if_pos hg]
        simp only [if_true, zt10, if_false]
        rw [e, ← nI_mulN]
        rfl
    · have : i = tn T := by omega
      subst this
      have l1 : (nI (tn T) ≤ nI (tn T)) = True := eq_true (nI_le (Nat.le_refl _) (by omega))
      simp only [Nat.zero_add, n1, l1, if_true]
theorem zas_le {c : Nat} {T : Tw} {tgt : Option Nat} {i : Nat} (hc : c ≤ 10) : zas c T tgt i ≤ 10 := by
  have hs : zas c T tgt i = _ := zqf_sum hc
  rw [hs]
  have := zty_le (T := T) (c := c) (i := i)
  split
  · exact this
  · split
    · split <;> omega
    · omega
theorem zl_rows25 {N : Nat} {T : Tw} {tgt : Option Nat} {x1 x4 c e : Int32} {μ ν : ZM} (hN : 300 ≤ N) (hT : tok T) (hc : CT μ 1 T) (hr : RT ν 1 0 T) (hx : (x4 = 1 ∧ x1 = -1 ∧ tgt = none) ∨ ∃ k, k < tn T ∧ x4 = 0 ∧ x1 = nI k ∧ tgt = some k) : ∃ v μ' ν', f_X4_rows_J25 N 0 x1 c e x4 μ = some (v, μ') ∧ f_X5_rows_J13 N 0 x1 c e ν = some (v, ν') ∧ zp_Fr 98 μ μ' ∧ zq_Fr 2 ν ν' := by
  have h7 := hT.1
  unfold f_X4_rows_J25 f_X5_rows_J13
  rcases zp_in (N := N) (a := 0) (b := 10) (x := c) (by omega) (by omega) with ⟨k, k1, k2, rfl, e1, e2⟩ | ⟨e1, e2⟩
  · have e1 : ∀ μ, f_X4_within N (nI k) 0 10 μ = some (1, μ) := e1
    have e2 : ∀ μ, f_X5_in N (nI k) 0 10 μ = some (1, μ) := e2
    rcases zp_in (N := N) (a := 0) (b := 1) (x := e) (by omega) (by omega) with ⟨w, w1, w2, rfl, e3, e4⟩ | ⟨e3, e4⟩
    · have e3 : ∀ μ, f_X4_within N (nI w) 0 1 μ = some (1, μ) := e3
      have e4 : ∀ μ, f_X5_in N (nI w) 0 1 μ = some (1, μ) := e4
      have hx1 : (x4 = 1 ∧ tgt = none) ∨ ∃ k, k < tn T ∧ x4 = 0 ∧ x1 = nI k ∧ tgt = some k := by
        rcases hx with ⟨q1, _, q3⟩ | q
        · exact Or.inl ⟨q1, q3⟩
        · exact Or.inr q
      have hx2 : (x1 = -1 ∧ tgt = none) ∨ ∃ k, k < tn T ∧ x1 = nI k ∧ tgt = some k := by
        rcases hx with ⟨_, q2, q3⟩ | ⟨j, j1, _, j3, j4⟩
        · exact Or.inl ⟨q2, q3⟩
        · exact Or.inr ⟨j, j1, j3, j4⟩
      have ht : ∀ k, tgt = some k → k < tn T := by
        intro k hk
        rcases hx2 with ⟨_, q⟩ | ⟨j, hj, _, q⟩
        · rw [q] at hk; cases hk
        · rw [q] at hk; cases hk; exact hj
      have p7 : 10 ^ tn T ≤ 10 ^ 7 := Nat.pow_le_pow_right (by decide) h7
      have p7 : 10 ^ tn T ≤ 10000000 := p7
      have bA : zA0 T k tgt ≤ 10 := by
        cases tgt with
        | none => show 1 ≤ 10; omega
        | some j => exact zty_le
      have bD : zD0 tgt ≤ 10 ∧ 0 < zD0 tgt := by
        cases tgt with
        | none => exact ⟨by show 1 ≤ 10; omega, by show 0 < 1; omega⟩
        | some j => exact ⟨by show 10 ≤ 10; omega, by show 0 < 10; omega⟩
      have b1 : zpd (zan T k tgt) (tn T) ≤ 10000000 := Nat.le_trans (zpd_le _ (fun i _ => by
        show (if _ then 10 - zty T k i else 1) ≤ 10
        split
        · exact Nat.sub_le _ _
        · omega)) p7
      have b2 : zpd (zad T tgt) (tn T) ≤ 10000000 := Nat.le_trans (zpd_le _ (fun i _ => by
        show (if _ then 10 else 1) ≤ 10
        split <;> omega)) p7
      have b2p : 0 < zpd (zad T tgt) (tn T) := zpd_pos _ (fun i _ => by
        show 0 < (if _ then 10 else 1)
        split <;> omega)
      have b3 : zpd (zaD T) (tn T) ≤ 10000000 := Nat.le_trans (zpd_le _ (fun i _ => by
        show (if _ then 10 else 1) ≤ 10
        split <;> omega)) p7
      have b3p : 0 < zpd (zaD T) (tn T) := zpd_pos _ (fun i _ => by
        show 0 < (if _ then 10 else 1)
        split <;> omega)
      have b4 : zpd (zas k T tgt) (tn T) ≤ 10000000 := Nat.le_trans (zpd_le _ (fun i _ => zas_le k2)) p7
      have c1 : zA0 T k tgt * zpd (zan T k tgt) (tn T) ≤ 10 * 10000000 := Nat.mul_le_mul bA b1
      have c2 : zD0 tgt * zpd (zad T tgt) (tn T) ≤ 10 * 10000000 := Nat.mul_le_mul bD.1 b2
      have c2p : 0 < zD0 tgt * zpd (zad T tgt) (tn T) := Nat.mul_pos bD.2 b2p
      have hcr := zcross (T := T) k2 ht
      obtain ⟨fr1, fr2⟩ := zfrac c2p b3p hcr
      -- the one
      have F : ∀ (M : Nat), f_X4_rows_L82 N (M + 1) 0 x1 (nI k) (nI w) x4 (nI (zA0 T k tgt * zpd (zan T k tgt) (tn T))) (nI (zD0 tgt * zpd (zad T tgt) (tn T))) (nI (tn T)) μ = some (if w = 0 then nI (zpd (zas k T tgt) (tn T) / Nat.gcd (zpd (zas k T tgt) (tn T)) (zpd (zaD T) (tn T))) else nI (zpd (zaD T) (tn T) / Nat.gcd (zpd (zas k T tgt) (tn T)) (zpd (zaD T) (tn T))), μ) := by
        intro M
        rw [← fr1, ← fr2]
        generalize zA0 T k tgt * zpd (zan T k tgt) (tn T) = a at c1 ⊢
        generalize zD0 tgt * zpd (zad T tgt) (tn T) = d at c2 c2p ⊢
        have n1 : μ.1 1 4 = nI (tn T) := hc.1
        have l1 : (nI (tn T) ≤ nI (tn T)) = True := eq_true (nI_le (Nat.le_refl _) (by omega))
        have G := zp_gcd_L (N := N) (μ := μ) 27 N 0 a d (by omega) (by omega) (by omega) (by omega) (by omega)
        have G : f_X4_commonDivisor N (nI a) (nI d) μ = some (nI (Nat.gcd a d), μ) := G
        have gp : 0 < Nat.gcd a d := Nat.gcd_pos_of_pos_right _ c2p
        have gl : Nat.gcd a d ≤ d := Nat.gcd_le_right _ c2p
        have l2 : ((0 : Int32) < nI (Nat.gcd a d)) = True := eq_true (nI_lt (a := 0) gp (by omega))
        have l3 : (nI (Nat.gcd a d) = 0) = False := eq_false (fun q => by
          have := (nI_eq (b := 0) (show Nat.gcd a d < 2 ^ 31 by omega) (by omega)).mp q
          omega)
        unfold f_X4_rows_L82
        simp only [Nat.zero_add, n1, l1, if_true, G, Option.bind_some, l2, l3, if_false, nI_divN (show a < 2 ^ 31 by omega) (show Nat.gcd a d < 2 ^ 31 by omega), nI_divN (show d < 2 ^ 31 by omega) (show Nat.gcd a d < 2 ^ 31 by omega)]
        rcases (show w = 0 ∨ w = 1 by omega) with rfl | rfl
        · rw [if_neg (fun q => q rfl), if_pos rfl]
        · rw [if_pos (show ¬ nI 1 = 0 by decide), if_neg (by decide)]
      -- the other
      obtain ⟨ν1, g1, s1⟩ := zq_52_L (N := N) (x3 := nI w) hN hT k2 hx2 N 0 ν (by have := tok_g hT; omega) (by omega) hr
      have g1 : f_X5_rows_L52 N N 0 x1 (nI k) (nI w) (nI (tg T)) 0 1 0 ν = _ := g1
      have hr1 : RT ν1 1 0 T := hr.fr (s1.1 1 (by decide) (by decide))
      have g2 := zq_204_L (N := N) (x3 := nI w) (x5 := nI (zsm (zP k T tgt) (tg T + 1))) hT hr1 N 0 (by omega) (by omega)
      have g2 : f_X5_rows_L204 N N 0 (nI w) (nI (tg T)) (nI (zsm (zP k T tgt) (tg T + 1))) 1 0 ν1 = _ := g2
      have g3 := g1.trans g2
      rw [zP_sum hT] at g3
      have G : f_X5_rows_L52 N N 0 x1 (nI k) (nI w) (nI (tg T)) 0 1 0 ν = some (if w = 0 then nI (zpd (zas k T tgt) (tn T) / Nat.gcd (zpd (zas k T tgt) (tn T)) (zpd (zaD T) (tn T))) else nI (zpd (zaD T) (tn T) / Nat.gcd (zpd (zas k T tgt) (tn T)) (zpd (zaD T) (tn T))), ν1) := by
        rw [g3]
        generalize zpd (zas k T tgt) (tn T) = a at b4 ⊢
        generalize zpd (zaD T) (tn T) = d at b3 b3p ⊢
        have gp : 0 < Nat.gcd a d := Nat.gcd_pos_of_pos_right _ b3p
        have gl : Nat.gcd a d ≤ d := Nat.gcd_le_right _ b3p
        have l3 : (nI (Nat.gcd a d) = 0) = False := eq_false (fun q => by
          have := (nI_eq (b := 0) (show Nat.gcd a d < 2 ^ 31 by omega) (by omega)).mp q
          omega)
        rw [zq_gcd_L 27 N a d (by omega) (by omega) (by omega) (by omega)]
        simp only [l3, if_false, nI_divN (show a < 2 ^ 31 by omega) (show Nat.gcd a d < 2 ^ 31 by omega), nI_divN (show d < 2 ^ 31 by omega) (show Nat.gcd a d < 2 ^ 31 by omega)]
        rcases (show w = 0 ∨ w = 1 by omega) with rfl | rfl
        · rw [if_neg (fun q => q rfl), if_pos rfl]
        · rw [if_pos (show ¬ nI 1 = 0 by decide), if_neg (by decide)]
      simp only [e1, e2, e3, e4, Option.bind_some, zt10, if_false, if_true, not_false_eq_true, Nat.zero_add, zq_tog hr hT, G]
      obtain ⟨M, hL⟩ := zp_rows_L (N := N) (x1 := x1) (x3 := nI w) hc hT k2 hx1 N 0 (by omega) (by omega)
      rw [F M] at hL
      rcases hx with ⟨rfl, rfl, rfl⟩ | ⟨j, hj, rfl, rfl, rfl⟩
      · have hL : f_X4_rows_L82 N N 0 (-1) (nI k) (nI w) 1 1 1 0 μ = _ := hL
        simp only [zt10, if_false, hL]
        exact ⟨_, μ, ν1, rfl, rfl, zp_Fr.rf, s1⟩
      · rw [show zA0 T k (some j) * zpd (zan T k (some j)) 0 = zty T k j from Nat.mul_one _] at hL
        have hL : f_X4_rows_L82 N N 0 (nI j) (nI k) (nI w) 0 (nI (zty T k j)) 10 0 μ = _ := hL
        simp only [if_true, zp_stay hc hT k2 hj, Option.bind_some, hL]
        exact ⟨_, μ, ν1, rfl, rfl, zp_Fr.rf, s1⟩
    · have e3 : ∀ μ, f_X4_within N e 0 1 μ = some (0, μ) := e3
      have e4 : ∀ μ, f_X5_in N e 0 1 μ = some (0, μ) := e4
      simp only [e1, e2, e3, e4, Option.bind_some, zt10, if_false, not_true_eq_false]
      exact ⟨-1, μ, ν, rfl, rfl, zp_Fr.rf, zq_Fr.rf⟩
  · have e1 : ∀ μ, f_X4_within N c 0 10 μ = some (0, μ) := e1
    have e2 : ∀ μ, f_X5_in N c 0 10 μ = some (0, μ) := e2
    simp only [e1, e2, Option.bind_some, if_true]
    exact ⟨-1, μ, ν, rfl, rfl, zp_Fr.rf, zq_Fr.rf⟩
theorem zl_rows {N : Nat} (hN : 300 ≤ N) (a c e : Int32) : zl_ok zr_rel (f_X4_rows N 0 a c e) (f_X5_rows N 0 a c e) := by
  refine zl_q (fun T μ ν hn => ?_)
  obtain ⟨hc, hr, hT, hy⟩ := hn
  unfold f_X4_rows f_X5_rows f_X4_rows_J10
  by_cases h : a = -1
  · simp only [h, not_true_eq_false, if_false, zt10, not_false_eq_true, if_true]
    exact zl_rows25 (tgt := none) hN hT hc hr (Or.inl ⟨rfl, rfl, rfl⟩)
  · simp only [h, not_false_eq_true, if_true, not_true_eq_false, if_false]
    rcases zp_couple (N := N) (x := a) hT with ⟨k, k1, rfl, p1, p2⟩ | ⟨p1, p2⟩
    · simp only [p1 μ hc, p2 ν hr, Option.bind_some, zt10, if_false]
      exact zl_rows25 (tgt := some k) hN hT hc hr (Or.inr ⟨k, k1, rfl, rfl, rfl⟩)
    · simp only [p1 μ hc, p2 ν hr, Option.bind_some, if_true]
      exact ⟨-1, μ, ν, rfl, rfl, zp_Fr.rf, zq_Fr.rf⟩
