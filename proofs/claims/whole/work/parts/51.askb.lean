-- what is asked: loops in step
theorem zl_ever_L {N : Nat} (hN : 8 ≤ N) : ∀ (f m : Nat) (x : Int32) (μ ν : ZM) (T : Tw), 61 < m + f → m ≤ 61 → CT μ 98 T → RT ν 2 0 T → tok T → ty T + (61 - m) < 2 ^ 30 → ∃ v μ' ν', f_X4_ever_L15 N f 0 x (nI m) μ = some (v, μ') ∧ f_X5_ever_L8 N f 0 x (nI m) ν = some (v, ν') ∧ zp_Fr 98 μ μ' ∧ zq_Fr 2 ν ν'
  | 0, m, x, μ, ν, T, hf, hm, hc, hr, hT, hy => absurd hf (by omega)
  | f + 1, m, x, μ, ν, T, hf, hm, hc, hr, hT, hy => by
    unfold f_X4_ever_L15 f_X5_ever_L8
    by_cases hin : m ≤ 60
    · have hl : ((60 : Int32) < nI m) = False := eq_false (nI_nlt (a := 60) hin (by omega))
      obtain ⟨μ1, f1, c1, r1⟩ := zp_pass hN hc hT (by omega)
      obtain ⟨ν1, g1, d1, s1⟩ := zq_pass hN (show 2 ≠ 6 by decide) hr hT (by omega)
      simp only [hl, if_false, Nat.zero_add, zp_keeper hN hc hT, zq_keys hN hr hT, Option.bind_some, nI_1, f1, g1]
      have ih : ∀ x, ∃ v μ' ν', f_X4_ever_L15 N f 0 x (nI (m + 1)) μ1 = some (v, μ') ∧ f_X5_ever_L8 N f 0 x (nI (m + 1)) ν1 = some (v, ν') ∧ zp_Fr 98 μ μ' ∧ zq_Fr 2 ν ν' := by
        intro x
        obtain ⟨v, μ', ν', a1, a2, a3, a4⟩ := zl_ever_L hN f (m + 1) x μ1 ν1 (pass T) (by omega) (by omega) c1 d1 (tok_pass hT) (by show ty T + 1 + _ < _; omega)
        exact ⟨v, μ', ν', a1, a2, r1.tr a3, s1.tr a4⟩
      cases hk : kp T with
      | none =>
        rw [show zp_cd none = (-4 : Int32) from rfl, if_pos (show (-4 : Int32) < 0 by decide), if_neg (show ¬ ¬ (-4 : Int32) = -4 by decide), Int32.or_zero]
        exact ih x
      | some b =>
        have hb := (kp_lt hk).1
        have h7 := hT.1
        rw [show zp_cd (some b) = nI b from rfl, if_neg (nI_pos (show b < 2 ^ 31 by omega)), if_pos (zp_cd_ne (show b < 7 by omega))]
        exact ih _
    · have hl : ((60 : Int32) < nI m) = True := eq_true (nI_lt (a := 60) (by omega) (by omega))
      simp only [hl, if_true]
      exact ⟨x, μ, ν, rfl, rfl, zp_Fr.rf, zq_Fr.rf⟩
theorem zl_ever {N : Nat} (hN : 300 ≤ N) : zl_ok zr_rel (f_X4_ever N 0) (f_X5_ever N 0) := by
  refine zl_q (fun T μ ν h => ?_)
  obtain ⟨hc, hr, hT, hy⟩ := h
  obtain ⟨μ1, f1, c1, r1⟩ := zp_become (N := N) (a := 98) (b := 1) hc hT.1 (by omega)
  obtain ⟨ν1, g1, d1, s1⟩ := zq_take (N := N) (by omega) hr hT
  obtain ⟨v, μ', ν', a1, a2, a3, a4⟩ := zl_ever_L (N := N) (by omega) N 0 0 μ1 ν1 T (by omega) (by omega) c1 d1 hT (by omega)
  refine ⟨v, μ', ν', ?_, ?_, r1.tr a3, s1.tr a4⟩
  · unfold f_X4_ever
    simp only [Nat.zero_add, f1, Option.bind_some]
    exact a1
  · unfold f_X5_ever
    simp only [g1, Option.bind_some]
    exact a2
theorem zl_sum_L {N n : Nat} (hN : 8 ≤ N) (hn : n ≤ 40) : ∀ (f m : Nat) (x : Int32) (μ ν : ZM) (T : Tw), n < m + f → m ≤ n → CT μ 98 T → RT ν 2 0 T → tok T → ty T + (n - m) < 2 ^ 30 → ∃ v μ' ν', f_X4_sum_L27 N f 0 (nI n) x (nI m) μ = some (v, μ') ∧ f_X5_sum_L20 N f 0 (nI n) x (nI m) ν = some (v, ν') ∧ zp_Fr 98 μ μ' ∧ zq_Fr 2 ν ν'
  | 0, m, x, μ, ν, T, hf, hm, hc, hr, hT, hy => absurd hf (by omega)
  | f + 1, m, x, μ, ν, T, hf, hm, hc, hr, hT, hy => by
    unfold f_X4_sum_L27 f_X5_sum_L20
    by_cases hin : m < n
    · have hl : (nI n ≤ nI m) = False := eq_false (nI_ge hin (by omega))
      obtain ⟨μ1, f1, c1, r1⟩ := zp_pass hN hc hT (by omega)
      obtain ⟨ν1, g1, d1, s1⟩ := zq_pass hN (show 2 ≠ 6 by decide) hr hT (by omega)
      simp only [hl, if_false, Nat.zero_add, zp_keeper hN hc hT, zq_keys hN hr hT, Option.bind_some, nI_1, f1, g1]
      have ih : ∀ x, ∃ v μ' ν', f_X4_sum_L27 N f 0 (nI n) x (nI (m + 1)) μ1 = some (v, μ') ∧ f_X5_sum_L20 N f 0 (nI n) x (nI (m + 1)) ν1 = some (v, ν') ∧ zp_Fr 98 μ μ' ∧ zq_Fr 2 ν ν' := by
        intro x
        obtain ⟨v, μ', ν', a1, a2, a3, a4⟩ := zl_sum_L hN hn f (m + 1) x μ1 ν1 (pass T) (by omega) (by omega) c1 d1 (tok_pass hT) (by show ty T + 1 + _ < _; omega)
        exact ⟨v, μ', ν', a1, a2, r1.tr a3, s1.tr a4⟩
      cases hk : kp T with
      | none =>
        rw [show zp_cd none = (-4 : Int32) from rfl, if_pos (show (-4 : Int32) < 0 by decide), if_neg (show ¬ ¬ (-4 : Int32) = -4 by decide), Int32.add_zero]
        exact ih x
      | some b =>
        have hb := (kp_lt hk).1
        have h7 := hT.1
        rw [show zp_cd (some b) = nI b from rfl, if_neg (nI_pos (show b < 2 ^ 31 by omega)), if_pos (zp_cd_ne (show b < 7 by omega)), show (25 : Int32) = nI 25 from rfl, nI_add]
        simp only [zp_o (show b < 7 by omega) (show 7 < 2 ^ 31 by omega), nI_clamp (show b < 2 ^ 31 by omega), zp_o (show 25 + b < 32 by omega) (show 32 < 2 ^ 31 by omega), nI_clamp (show 25 + b < 2 ^ 31 by omega), Bool.false_eq_true, if_false]
        rw [(hc.2.2.2.2 b hb).2.2.2, (zq_at hr hb).2.2.2]
        exact ih _
    · have hl : (nI n ≤ nI m) = True := eq_true (nI_le (by omega) (by omega))
      simp only [hl, if_true]
      exact ⟨x, μ, ν, rfl, rfl, zp_Fr.rf, zq_Fr.rf⟩
theorem zl_sum {N : Nat} (hN : 300 ≤ N) (a : Int32) : zl_ok zr_rel (f_X4_sum N 0 a) (f_X5_sum N 0 a) := by
  refine zl_q (fun T μ ν h => ?_)
  obtain ⟨hc, hr, hT, hy⟩ := h
  rcases zp_in (N := N) (a := 1) (b := 40) (x := a) (by omega) (by omega) with ⟨k, k1, k2, rfl, e1, e2⟩ | ⟨e1, e2⟩
  · have e1 : ∀ μ, f_X4_within N (nI k) 1 40 μ = some (1, μ) := e1
    have e2 : ∀ μ, f_X5_in N (nI k) 1 40 μ = some (1, μ) := e2
    obtain ⟨μ1, f1, c1, r1⟩ := zp_become (N := N) (a := 98) (b := 1) hc hT.1 (by omega)
    obtain ⟨ν1, g1, d1, s1⟩ := zq_take (N := N) (by omega) hr hT
    obtain ⟨v, μ', ν', a1, a2, a3, a4⟩ := zl_sum_L (N := N) (n := k) (by omega) (by omega) N 0 0 μ1 ν1 T (by omega) (by omega) c1 d1 hT (by omega)
    refine ⟨v, μ', ν', ?_, ?_, r1.tr a3, s1.tr a4⟩
    · unfold f_X4_sum
      simp only [e1, Option.bind_some, Nat.zero_add, f1, zt10, not_false_eq_true, reduceIte]
      exact a1
    · unfold f_X5_sum
      simp only [e2, Option.bind_some, g1, zt10, not_false_eq_true, reduceIte]
      exact a2
  · have e1 : ∀ μ, f_X4_within N a 1 40 μ = some (0, μ) := e1
    have e2 : ∀ μ, f_X5_in N a 1 40 μ = some (0, μ) := e2
    refine ⟨-1, μ, ν, ?_, ?_, zp_Fr.rf, zq_Fr.rf⟩
    · unfold f_X4_sum
      simp only [e1, Option.bind_some, not_true_eq_false, reduceIte]
    · unfold f_X5_sum
      simp only [e2, Option.bind_some, not_true_eq_false, reduceIte]
theorem zl_parts_L {N i : Nat} {T0 : Tw} (hN : 8 ≤ N) (hT0 : tok T0) (hi : i < tn T0) (hb : (tg T0).testBit i = true) : ∀ (f m : Nat) (μ ν : ZM) (T : Tw), 61 < m + f → m ≤ 61 → RT ν 1 0 T0 → tn T = tn T0 → CT μ 98 T → RT ν 2 0 T → tok T → ty T + (61 - m) < 2 ^ 30 → ∃ v μ' ν', f_X4_parts_L37 N f 0 (nI i) (nI m) μ = some (v, μ') ∧ f_X5_parts_L16 N f 0 (nI i) (nI m) ν = some (v, ν') ∧ zp_Fr 98 μ μ' ∧ zq_Fr 2 ν ν'
  | 0, m, μ, ν, T, hf, hm, hr1, hn, hc, hr, hT, hy => absurd hf (by omega)
  | f + 1, m, μ, ν, T, hf, hm, hr1, hn, hc, hr, hT, hy => by
    unfold f_X4_parts_L37 f_X5_parts_L16
    have h7 := hT0.1
    by_cases hin : m ≤ 60
    · have hl : ((60 : Int32) < nI m) = False := eq_false (nI_nlt (a := 60) hin (by omega))
      obtain ⟨μ1, f1, c1, r1⟩ := zp_pass hN hc hT (by omega)
      obtain ⟨ν1, g1, d1, s1⟩ := zq_pass hN (show 2 ≠ 6 by decide) hr hT (by omega)
      have q0 : f_X5_isParted N 1 (nI i) ν = some (0, ν) := by rw [zq_parted hr1 hT0 hi, if_pos hb]
      have hi2 : i < tn (pass T) := by show i < tn T; omega
      have q1 := zp_isT (N := N) c1 (tok_g (tok_pass hT)) (show i < 7 by omega)
      have q2 := zq_parted (N := N) d1 (tok_pass hT) hi2
      simp only [hl, if_false, Nat.zero_add, Option.bind_some, nI_1, f1, g1, q0, q1, q2, not_true_eq_false]
      by_cases hb2 : (tg (pass T)).testBit i = true
      · simp only [hb2, if_true, zt10, not_false_eq_true]
        obtain ⟨v, μ', ν', a1, a2, a3, a4⟩ := zl_parts_L hN hT0 hi hb f (m + 1) μ1 ν1 (pass T) (by omega) (by omega) (hr1.fr (s1.1 1 (by decide) (by decide))) hn c1 d1 (tok_pass hT) (by show ty T + 1 + _ < _; omega)
        exact ⟨v, μ', ν', a1, a2, r1.tr a3, s1.tr a4⟩
      · simp only [hb2, if_false, zt10, not_true_eq_false]
        exact ⟨nI m, μ1, ν1, rfl, rfl, r1, s1⟩
    · have hl : ((60 : Int32) < nI m) = True := eq_true (nI_lt (a := 60) (by omega) (by omega))
      simp only [hl, if_true]
      exact ⟨-4, μ, ν, rfl, rfl, zp_Fr.rf, zq_Fr.rf⟩
theorem zl_parts {N : Nat} (hN : 300 ≤ N) (c : Int32) : zl_ok zr_rel (f_X4_parts N 0 c) (f_X5_parts N 0 c) := by
  refine zl_q (fun T μ ν h => ?_)
  obtain ⟨hc, hr, hT, hy⟩ := h
  have h7 := hT.1
  rcases zp_couple (N := N) (x := c) hT with ⟨i, i1, rfl, p1, p2⟩ | ⟨p1, p2⟩
  · obtain ⟨μ1, f1, c1, r1⟩ := zp_become (N := N) (a := 98) (b := 1) hc hT.1 (by omega)
    obtain ⟨ν1, g1, d1, s1⟩ := zq_take (N := N) (by omega) hr hT
    have hr1 : RT ν1 1 0 T := hr.fr (s1.1 1 (by decide) (by decide))
    have q1 := zp_isT (N := N) hc (tok_g hT) (show i < 7 by omega)
    by_cases hb : (tg T).testBit i = true
    · obtain ⟨v, μ', ν', a1, a2, a3, a4⟩ := zl_parts_L (N := N) (by omega) hT i1 hb N 1 μ1 ν1 T (by omega) (by omega) hr1 rfl c1 d1 hT (by omega)
      refine ⟨v, μ', ν', ?_, ?_, r1.tr a3, s1.tr a4⟩
      · unfold f_X4_parts
        simp only [p1 μ hc, Option.bind_some, Nat.zero_add, q1, hb, if_true, zt10, not_false_eq_true, f1]
        exact a1
      · unfold f_X5_parts
        simp only [p2 ν hr, Option.bind_some, if_true, zt10, not_false_eq_true, g1]
        exact a2
    · refine ⟨-4, μ, ν1, ?_, ?_, zp_Fr.rf, s1⟩
      · unfold f_X4_parts
        simp only [p1 μ hc, Option.bind_some, Nat.zero_add, q1, hb, if_true, if_false, zt10, not_false_eq_true, not_true_eq_false]
        rfl
      · unfold f_X5_parts
        simp only [p2 ν hr, Option.bind_some, if_true, zt10, not_false_eq_true, g1]
        obtain ⟨M, rfl⟩ : ∃ M, N = M + 1 := ⟨N - 1, by omega⟩
        unfold f_X5_parts_L16
        rw [if_neg (show ¬ (60 : Int32) < 1 by decide), Nat.zero_add, zq_parted hr1 hT i1, if_neg hb]
        simp only [Option.bind_some, zt10, not_false_eq_true, if_true]
  · refine ⟨-1, μ, ν, ?_, ?_, zp_Fr.rf, zq_Fr.rf⟩
    · unfold f_X4_parts
      simp only [p1 μ hc, Option.bind_some, not_true_eq_false, if_false]
    · unfold f_X5_parts
      simp only [p2 ν hr, Option.bind_some, not_true_eq_false, if_false]
