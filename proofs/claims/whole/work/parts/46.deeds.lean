-- passOn, whole
set_option maxHeartbeats 1000000 in
theorem zq_next_L {N r : Nat} {T : Tw} (hN : 8 ≤ N) (hr : r ≠ 6) (hT : tok T) (hy : ty T < 2 ^ 30) : ∀ (f m : Nat) (ν : ZM), tn T < m + f → m ≤ tn T → RT ν r 0 T → (∀ j, j < m → ν.1 6 j = nI (pn T j)) → ∃ ν', f_X5_passOn_L2 N f 0 r (nI m) ν = some ν' ∧ RT ν' r 0 (pass T) ∧ zq_Fr r ν ν'
  | 0, m, ν, hf, hm, h, h6 => absurd hf (by omega)
  | f + 1, m, ν, hf, hm, h, h6 => by
    have h7 := hT.1
    unfold f_X5_passOn_L2
    have h1 : ν.1 r 0 = nI (tn T) := h.1
    rw [h1]
    by_cases hin : m < tn T
    · have m7 : m < 7 := by omega
      rw [if_neg (nI_ge hin (by omega)), zq_parted h hT hin]
      simp only [Option.bind_some]
      obtain ⟨b1, b2, b3, b4⟩ := hT.2.2.2 m hin
      obtain ⟨a1, a2, a3, a4⟩ := zq_at h hin
      have step : ∀ x : Int32, x = nI (pn T m) → ∃ ν', f_X5_passOn_L2 N f 0 r (nI (m + 1)) (zk_si ν (0 + 6) m x) = some ν' ∧ RT ν' r 0 (pass T) ∧ zq_Fr r ν ν' := by
        intro x hx
        subst hx
        rw [Nat.zero_add]
        obtain ⟨ν', f1, f2, f3⟩ := zq_next_L hN hr hT hy f (m + 1) (zk_si ν 6 m (nI (pn T m))) (by omega) (by omega) (h.fr (by simp [zk_si, hr])) (fun j hj => by
          by_cases e : j = m
          · subst e; exact zp_ss
          · rw [zp_sk (by omega)]; exact h6 j (by omega))
        exact ⟨ν', f1, f2, zq_Fr.s6.tr f3⟩
      rw [show (25 : Int32) = nI 25 from rfl, nI_add, nI_1]
      simp only [zp_o m7 (show 7 < 2 ^ 31 by omega), zp_o (show 25 + m < 32 by omega) (show 32 < 2 ^ 31 by omega), nI_clamp (show m < 2 ^ 31 by omega), nI_clamp (show 25 + m < 2 ^ 31 by omega), Bool.false_eq_true, if_false]
      rw [a4]
      by_cases hb : (tg T).testBit m = true
      · have e : pn T m = pv T m := if_pos hb
        rw [if_pos hb, if_pos (show (0 : Int32) = 0 from rfl), zq_worse hN h hT hin (by omega)]
        simp only [Option.bind_some]
        have hraw := (zp_raw (tt T m) (by omega) _ (zp_rng (wz_in (decide (kp T = some m)) (decide (sc T = some m)) (tk T m) (ty T) (tt T m)))).2
        by_cases hq : (0 : Int32) ≤ nI (tt T m) + Int32.ofInt (wz (decide (kp T = some m)) (decide (sc T = some m)) (tk T m) (ty T) (tt T m))
        · rw [if_pos hq] at hraw
          rw [if_pos hq]
          exact step _ (by rw [e]; exact hraw)
        · rw [if_neg hq] at hraw
          rw [if_neg hq]
          exact step _ (by rw [e]; exact hraw)
      · have e : pn T m = tt T m := if_neg hb
        rw [if_neg hb, if_neg (show ¬ (1 : Int32) = 0 by decide), if_pos (show (0 : Int32) ≤ nI (tt T m) from nI_le (a := 0) (Nat.zero_le _) (by omega))]
        exact step _ (by rw [e])
    · have : m = tn T := by omega
      subst this
      rw [if_pos (nI_le (Nat.le_refl _) (by omega))]
      exact zq_year_L hr hT hy N 0 ν (by omega) (by omega) (h.eq (ps_0 T)) h6
theorem zq_pass {N r : Nat} {ν : ZM} {T : Tw} (hN : 8 ≤ N) (hr : r ≠ 6) (h : RT ν r 0 T) (hT : tok T) (hy : ty T < 2 ^ 30) : ∃ ν', f_X5_passOn N 0 r ν = some ν' ∧ RT ν' r 0 (pass T) ∧ zq_Fr r ν ν' := by
  have h7 := hT.1
  exact zq_next_L hN hr hT hy N 0 ν (by omega) (by omega) h (fun j hj => absurd hj (by omega))
theorem zq_goOn_L {N n : Nat} (hN : 8 ≤ N) (hn : n ≤ 1000) : ∀ (f i : Nat) (ν : ZM) (T : Tw), n < i + f → i ≤ n → RT ν 2 0 T → tok T → ty T + (n - i) < 2 ^ 30 → ∃ ν', f_X5_goOn_L2 N f 0 (nI n) (nI i) ν = some ν' ∧ RT ν' 2 0 (passN T (n - i)) ∧ zq_Fr 2 ν ν'
  | 0, i, ν, T, hf, hi, h, hT, hy => absurd hf (by omega)
  | f + 1, i, ν, T, hf, hi, h, hT, hy => by
    unfold f_X5_goOn_L2
    by_cases hin : i < n
    · rw [if_neg (nI_ge hin (by omega)), Nat.zero_add]
      obtain ⟨ν1, f1, c1, r1⟩ := zq_pass hN (show 2 ≠ 6 by decide) h hT (by omega)
      rw [f1]
      simp only [Option.bind_some]
      rw [nI_1]
      obtain ⟨ν2, f2, c2, r2⟩ := zq_goOn_L hN hn f (i + 1) ν1 (pass T) (by omega) (by omega) c1 (tok_pass hT) (by show ty T + 1 + _ < _; omega)
      refine ⟨ν2, f2, ?_, r1.tr r2⟩
      rw [show n - i = (n - (i + 1)) + 1 by omega]
      exact c2
    · have : i = n := by omega
      subst this
      rw [if_pos (nI_le (Nat.le_refl _) (by omega)), Nat.sub_self]
      exact ⟨ν, rfl, h, zq_Fr.rf⟩
theorem zq_goOn {N n : Nat} {ν : ZM} {T : Tw} (hN : 300 ≤ N) (hn : n ≤ 200) (h : RT ν 2 0 T) (hT : tok T) (hy : ty T < 2 ^ 20) : ∃ ν', f_X5_goOn N 0 (nI n) ν = some ν' ∧ RT ν' 2 0 (passN T n) ∧ zq_Fr 2 ν ν' := by
  unfold f_X5_goOn
  have := zq_goOn_L (N := N) (n := n) (by omega) (by omega) N 0 ν T (by omega) (by omega) h hT (by omega)
  rwa [Nat.sub_zero] at this
-- copies
theorem zc_rd (μ : ZM) (k0 k1 sp dp n q j : Nat) : (zk_ci μ k0 k1 sp dp n).1 q j = if q = k1 ∧ dp ≤ j ∧ j < dp + n then μ.1 k0 (sp + (j - dp)) else μ.1 q j := by
  unfold zk_ci va_cpy
  simp only
  by_cases e : q = k1
  · subst e
    by_cases e2 : dp ≤ j ∧ j < dp + n
    · rw [if_pos rfl, if_pos e2, if_pos ⟨rfl, e2⟩]
    · rw [if_pos rfl, if_neg e2, if_neg (fun q => e2 q.2)]
  · rw [if_neg e, if_neg (fun q => e q.1)]
theorem zc_in {μ : ZM} {k0 k1 sp dp n j : Nat} (h : j < n) : (zk_ci μ k0 k1 sp dp n).1 k1 (dp + j) = μ.1 k0 (sp + j) := by
  rw [zc_rd, if_pos ⟨rfl, by omega, by omega⟩, show dp + j - dp = j by omega]
theorem zc_ne {μ : ZM} {k0 k1 sp dp n q : Nat} (h : q ≠ k1) : (zk_ci μ k0 k1 sp dp n).1 q = μ.1 q := by
  unfold zk_ci
  simp only
  rw [if_neg h]
theorem zc_0 (μ : ZM) (k0 k1 sp dp : Nat) : zk_ci μ k0 k1 sp dp 0 = μ := by
  refine Prod.ext ?_ rfl
  funext q j
  rw [zc_rd, if_neg (by omega)]
theorem zc_s {μ : ZM} {k0 k1 sp dp m : Nat} {v : Int32} (hv : v = μ.1 k0 (sp + m)) : zk_si (zk_ci μ k0 k1 sp dp m) k1 (dp + m) v = zk_ci μ k0 k1 sp dp (m + 1) := by
  refine Prod.ext ?_ rfl
  funext q j
  rw [zp_si, zc_rd, zc_rd]
  by_cases e : q = k1
  · by_cases e2 : j = dp + m
    · rw [if_pos ⟨e, e2⟩, if_pos ⟨e, by omega, by omega⟩, hv, e2, show dp + m - dp = m by omega]
    · rw [if_neg (fun q => e2 q.2)]
      by_cases e3 : dp ≤ j ∧ j < dp + m
      · rw [if_pos ⟨e, e3⟩, if_pos ⟨e, by omega, by omega⟩]
      · rw [if_neg (fun q => e3 q.2), if_neg (fun q => e3 ⟨q.2.1, by omega⟩)]
  · rw [if_neg (fun q => e q.1), if_neg (fun q => e q.1), if_neg (fun q => e q.1)]
theorem RT.ci {ν : ZM} {r r' off off' : Nat} {T : Tw} (h : RT ν r off T) (h7 : tn T ≤ 7) : RT (zk_ci ν r r' off off' 32) r' off' T := by
  obtain ⟨h1, h2, h3, h4, h5⟩ := h
  refine ⟨?_, ?_, ?_, ?_, fun i hi => ?_⟩
  · have := zc_in (μ := ν) (k0 := r) (k1 := r') (sp := off) (dp := off') (n := 32) (j := 0) (by omega)
    rw [Nat.add_zero, Nat.add_zero] at this
    rw [this]; exact h1
  · rw [zc_in (by omega)]; exact h2
  · rw [zc_in (by omega)]; exact h3
  · rw [zc_in (by omega)]; exact h4
  · have q := h5 i hi
    rw [Nat.add_assoc, Nat.add_assoc, Nat.add_assoc, Nat.add_assoc] at q ⊢
    rw [zc_in (by omega), zc_in (by omega), zc_in (by omega), zc_in (by omega)]
    exact q
theorem zq_Fr.ci {r k0 sp dp n : Nat} {ν : ZM} : zq_Fr r ν (zk_ci ν k0 r sp dp n) := ⟨fun q hq _ => zc_ne hq, rfl⟩
theorem zq_take_L {N : Nat} {ν : ZM} : ∀ (f m : Nat), 32 < m + f → m ≤ 32 → f_X5_take_L2 N f 0 (nI m) (zk_ci ν 1 2 0 0 m) = some (zk_ci ν 1 2 0 0 32)
  | 0, m, hf, hm => absurd hf (by omega)
  | f + 1, m, hf, hm => by
    unfold f_X5_take_L2
    by_cases hin : m < 32
    · rw [if_neg (show ¬ (32 : Int32) ≤ nI m from nI_ge (b := 32) hin (by omega)), nI_1]
      simp only [zp_o hin (show 32 < 2 ^ 31 by omega), nI_clamp (show m < 2 ^ 31 by omega), Bool.false_eq_true, if_false]
      have e := zc_s (μ := ν) (k0 := 1) (k1 := 2) (sp := 0) (dp := 0) (m := m) rfl
      rw [Nat.zero_add] at e
      rw [Nat.zero_add, Nat.zero_add, zc_ne (show (1 : Nat) ≠ 2 by decide), e]
      exact zq_take_L f (m + 1) (by omega) (by omega)
    · have : m = 32 := by omega
      subst this
      rw [if_pos (show (32 : Int32) ≤ nI 32 by decide)]
theorem zq_take {N : Nat} {ν : ZM} {T : Tw} (hN : 40 ≤ N) (h : RT ν 1 0 T) (hT : tok T) : ∃ ν', f_X5_take N 0 ν = some ν' ∧ RT ν' 2 0 T ∧ zq_Fr 2 ν ν' := by
  have := zq_take_L (N := N) (ν := ν) N 0 (by omega) (by omega)
  rw [zc_0] at this
  exact ⟨_, this, h.ci hT.1, zq_Fr.ci⟩
theorem zp_Fr.ci {a k0 k1 sp dp n : Nat} {μ : ZM} (h1 : a ≤ k1) (h2 : k1 ≤ a + 4) : zp_Fr a μ (zk_ci μ k0 k1 sp dp n) := ⟨fun q hq => zc_ne (by omega), rfl⟩
theorem zp_become {N a b : Nat} {μ : ZM} {T : Tw} (h : CT μ b T) (hT : tn T ≤ 7) (hd : a + 4 < b ∨ b + 4 < a) : ∃ μ', f_X3_become N a b μ = some μ' ∧ CT μ' a T ∧ zp_Fr a μ μ' := by
  obtain ⟨h1, h2, h3, h4, h5⟩ := h
  refine ⟨_, rfl, ⟨?_, ?_, ?_, ?_, fun i hi => ?_⟩, (((zp_Fr.ci (by omega) (by omega)).tr (zp_Fr.ci (by omega) (by omega))).tr ((zp_Fr.ci (by omega) (by omega)).tr (zp_Fr.ci (by omega) (by omega)))).tr (((zp_Fr.si (by omega) (by omega)).tr (zp_Fr.si (by omega) (by omega))).tr ((zp_Fr.si (by omega) (by omega)).tr (zp_Fr.si (by omega) (by omega))))⟩
  · rw [zp_sk (by omega), zp_sk (by omega), zp_sk (by omega), zp_ss, zc_ne (by omega), zc_ne (by omega), zc_ne (by omega), zc_ne (by omega)]
    exact h1
  · rw [zp_sk (by omega), zp_sk (by omega), zp_ss, zp_sk (by omega), zc_ne (by omega), zc_ne (by omega), zc_ne (by omega), zc_ne (by omega)]
    exact h2
  · rw [zp_sk (by omega), zp_ss, zp_sk (by omega), zp_sk (by omega), zc_ne (by omega), zc_ne (by omega), zc_ne (by omega), zc_ne (by omega)]
    exact h3
  · rw [zp_ss, zp_sk (by omega), zp_sk (by omega), zp_sk (by omega), zc_ne (by omega), zc_ne (by omega), zc_ne (by omega), zc_ne (by omega)]
    exact h4
  · have q := h5 i hi
    have i7 : i < 7 := by omega
    refine ⟨?_, ?_, ?_, ?_⟩
    · rw [zp_sk (by omega), zp_sk (by omega), zp_sk (by omega), zp_sk (by omega), zc_ne (by omega), zc_ne (by omega), zc_ne (by omega)]
      have := zc_in (μ := μ) (k0 := b + 1) (k1 := a + 1) (sp := 0) (dp := 0) (n := 7) i7
      rw [Nat.zero_add] at this
      rw [this]; exact q.1
    · rw [zp_sk (by omega), zp_sk (by omega), zp_sk (by omega), zp_sk (by omega), zc_ne (by omega), zc_ne (by omega)]
      have := zc_in (μ := zk_ci μ (b + 1) (a + 1) 0 0 7) (k0 := b + 2) (k1 := a + 2) (sp := 0) (dp := 0) (n := 7) i7
      rw [Nat.zero_add] at this
      rw [this, zc_ne (by omega)]; exact q.2.1
    · rw [zp_sk (by omega), zp_sk (by omega), zp_sk (by omega), zp_sk (by omega), zc_ne (by omega)]
      have := zc_in (μ := zk_ci (zk_ci μ (b + 1) (a + 1) 0 0 7) (b + 2) (a + 2) 0 0 7) (k0 := b + 3) (k1 := a + 3) (sp := 0) (dp := 0) (n := 7) i7
      rw [Nat.zero_add] at this
      rw [this, zc_ne (by omega), zc_ne (by omega)]; exact q.2.2.1
    · rw [zp_sk (by omega), zp_sk (by omega), zp_sk (by omega), zp_sk (by omega)]
      have := zc_in (μ := zk_ci (zk_ci (zk_ci μ (b + 1) (a + 1) 0 0 7) (b + 2) (a + 2) 0 0 7) (b + 3) (a + 3) 0 0 7) (k0 := b + 4) (k1 := a + 4) (sp := 0) (dp := 0) (n := 7) i7
      rw [Nat.zero_add] at this
      rw [this, zc_ne (by omega), zc_ne (by omega), zc_ne (by omega)]; exact q.2.2.2
