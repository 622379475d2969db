-- needs, start, rises
theorem zl_needs_L {N i n : Nat} {T : Tw} (hN : 300 ≤ N) (hT : tok T) (hy : ty T ≤ 9999) (hi : i < tn T) (hn : n ≤ 40) : ∀ (f m : Nat) (μ ν : ZM), 20 < m + f → m ≤ 20 → CT μ 1 T → RT ν 1 0 T → ∃ v μ' ν', f_X4_needs_L36 N f 0 (nI i) (nI n) (nI m) μ = some (v, μ') ∧ f_X5_needs_L36 N f 0 (nI i) (nI n) (nI m) ν = some (v, ν') ∧ zp_Fr 98 μ μ' ∧ zq_Fr 2 ν ν'
  | 0, m, μ, ν, hf, hm, hc, hr => absurd hf (by omega)
  | f + 1, m, μ, ν, hf, hm, hc, hr => by
    unfold f_X4_needs_L36 f_X5_needs_L36
    have h7 := hT.1
    by_cases hin : m ≤ 19
    · have hl : ((19 : Int32) < nI m) = False := eq_false (nI_nlt (a := 19) hin (by omega))
      have ht := (hT.2.2.2 i hi).2.2.2
      have hT1 : tok (Ttm T i (tt T i - m)) := tok_t hT (by omega)
      obtain ⟨μ1, f1, c1, r1⟩ := zp_become (N := N) (a := 98) (b := 1) hc hT.1 (by omega)
      obtain ⟨μ2, f2, c2, r2⟩ := zp_better (N := N) (n := m) c1 hT hi (by omega)
      obtain ⟨μ3, f3, c3, r3⟩ := zp_years hN (n := n) (by omega) c2 hT1 (show ty T < 2 ^ 20 by omega)
      obtain ⟨ν1, g1, d1, s1⟩ := zq_take (N := N) (by omega) hr hT
      obtain ⟨ν2, g2, d2, s2⟩ := zq_nurse (N := N) (n := m) d1 hT hi (by omega)
      obtain ⟨ν3, g3, d3, s3⟩ := zq_goOn hN (n := n) (by omega) d2 hT1 (show ty T < 2 ^ 20 by omega)
      have hT3 := tok_passN n hT1
      have hi3 : i < tn (passN (Ttm T i (tt T i - m)) n) := by rw [tn_passN]; exact hi
      have q1 := zp_isT (N := N) c3 (tok_g hT3) (show i < 7 by omega)
      have q2 := zq_parted (N := N) d3 hT3 hi3
      simp only [hl, if_false, Nat.zero_add, Option.bind_some, nI_1, f1, f2, f3, g1, g2, g3, q1, q2]
      by_cases hb2 : (tg (passN (Ttm T i (tt T i - m)) n)).testBit i = true
      · simp only [hb2, if_true, zt10, if_false, not_true_eq_false]
        exact ⟨nI m, μ3, ν3, rfl, rfl, r1.tr (r2.tr r3), s1.tr (s2.tr s3)⟩
      · simp only [hb2, if_false, if_true, zt10, not_false_eq_true]
        have F := r1.tr (r2.tr r3)
        have G := s1.tr (s2.tr s3)
        obtain ⟨v, μ', ν', a1, a2, a3, a4⟩ := zl_needs_L hN hT hy hi hn f (m + 1) μ3 ν3 (by omega) (by omega) (hc.fr F (by omega)) (hr.fr (G.1 1 (by decide) (by decide)))
        exact ⟨v, μ', ν', a1, a2, F.tr a3, G.tr a4⟩
    · have hl : ((19 : Int32) < nI m) = True := eq_true (nI_lt (a := 19) (by omega) (by omega))
      simp only [hl, if_true]
      exact ⟨-4, μ, ν, rfl, rfl, zp_Fr.rf, zq_Fr.rf⟩
theorem zl_needs {N : Nat} (hN : 300 ≤ N) (c a : Int32) : zl_ok zr_rel (f_X4_needs N 0 c a) (f_X5_needs N 0 c a) := by
  refine zl_q (fun T μ ν h => ?_)
  obtain ⟨hc, hr, hT, hy⟩ := h
  have h7 := hT.1
  rcases zp_couple (N := N) (x := c) hT with ⟨i, i1, rfl, p1, p2⟩ | ⟨p1, p2⟩
  · rcases zp_in (N := N) (a := 1) (b := 40) (x := a) (by omega) (by omega) with ⟨k, k1, k2, rfl, e1, e2⟩ | ⟨e1, e2⟩
    · have e1 : ∀ μ, f_X4_within N (nI k) 1 40 μ = some (1, μ) := e1
      have e2 : ∀ μ, f_X5_in N (nI k) 1 40 μ = some (1, μ) := e2
      have q1 := zp_isT (N := N) hc (tok_g hT) (show i < 7 by omega)
      have q2 := zq_parted (N := N) hr hT i1
      by_cases hb : (tg T).testBit i = true
      · obtain ⟨v, μ', ν', a1, a2, a3, a4⟩ := zl_needs_L (n := k) hN hT hy i1 (by omega) N 0 μ ν (by omega) (by omega) hc hr
        refine ⟨v, μ', ν', ?_, ?_, a3, a4⟩
        · unfold f_X4_needs
          simp only [p1 μ hc, e1, Option.bind_some, Nat.zero_add, q1, hb, if_true, if_false, zt10, not_false_eq_true]
          exact a1
        · unfold f_X5_needs
          simp only [p2 ν hr, e2, Option.bind_some, Nat.zero_add, q2, hb, if_true, if_false, zt10, not_false_eq_true]
          exact a2
      · refine ⟨-2, μ, ν, ?_, ?_, zp_Fr.rf, zq_Fr.rf⟩
        · unfold f_X4_needs
          simp only [p1 μ hc, e1, Option.bind_some, Nat.zero_add, q1, hb, if_true, if_false, zt10, not_false_eq_true, not_true_eq_false]
          rfl
        · unfold f_X5_needs
          simp only [p2 ν hr, e2, Option.bind_some, Nat.zero_add, q2, hb, if_true, if_false, zt10, not_false_eq_true, not_true_eq_false]
          rfl
    · have e1 : ∀ μ, f_X4_within N a 1 40 μ = some (0, μ) := e1
      have e2 : ∀ μ, f_X5_in N a 1 40 μ = some (0, μ) := e2
      refine ⟨-1, μ, ν, ?_, ?_, zp_Fr.rf, zq_Fr.rf⟩
      · unfold f_X4_needs
        simp only [p1 μ hc, e1, Option.bind_some, zt10, not_true_eq_false, if_false]
      · unfold f_X5_needs
        simp only [p2 ν hr, e2, Option.bind_some, zt10, not_true_eq_false, if_false]
  · refine ⟨-1, μ, ν, ?_, ?_, zp_Fr.rf, zq_Fr.rf⟩
    · unfold f_X4_needs
      simp only [p1 μ hc, Option.bind_some, if_true]
    · unfold f_X5_needs
      simp only [p2 ν hr, Option.bind_some, if_true]
theorem zl_start_L {N n : Nat} {T : Tw} (hN : 300 ≤ N) (hT : tok T) (hy : ty T ≤ 9999) (hn : n ≤ 60) : ∀ (f m : Nat) (μ ν : ZM), tn T < m + f → m ≤ tn T → CT μ 1 T → RT ν 1 0 T → ∃ v μ' ν', f_X4_start_L14 N f 0 (nI n) (nI m) μ = some (v, μ') ∧ f_X5_start_L14 N f 0 (nI n) (nI m) ν = some (v, ν') ∧ zp_Fr 98 μ μ' ∧ zq_Fr 2 ν ν'
  | 0, m, μ, ν, hf, hm, hc, hr => absurd hf (by omega)
  | f + 1, m, μ, ν, hf, hm, hc, hr => by
    unfold f_X4_start_L14 f_X5_start_L14
    have h7 := hT.1
    have n1 : μ.1 1 4 = nI (tn T) := hc.1
    have n2 : ν.1 1 0 = nI (tn T) := hr.1
    by_cases hin : m < tn T
    · have hl : (nI (tn T) ≤ nI m) = False := eq_false (nI_ge hin (by omega))
      have q1 := zp_isT (N := N) hc (tok_g hT) (show m < 7 by omega)
      have q2 := zq_parted (N := N) hr hT hin
      by_cases hb : (tg T).testBit m = true
      · simp only [Nat.zero_add, n1, n2, hl, if_false, Option.bind_some, nI_1, q1, q2, hb, if_true, zt10, not_false_eq_true]
        exact zl_start_L hN hT hy hn f (m + 1) μ ν (by omega) (by omega) hc hr
      · have hT1 := tok_anew hT hin
        obtain ⟨μ1, f1, c1, r1⟩ := zp_become (N := N) (a := 98) (b := 1) hc hT.1 (by omega)
        obtain ⟨μ2, f2, c2, r2⟩ := zp_anew (N := N) c1 hT hin
        obtain ⟨μ3, f3, c3, r3⟩ := zp_years hN (n := n) (by omega) c2 hT1 (show ty T < 2 ^ 20 by omega)
        obtain ⟨ν1, g1, d1, s1⟩ := zq_take (N := N) (by omega) hr hT
        obtain ⟨ν2, g2, d2, s2⟩ := zq_anew (N := N) d1 hT hin
        obtain ⟨ν3, g3, d3, s3⟩ := zq_goOn hN (n := n) (by omega) d2 hT1 (show ty T < 2 ^ 20 by omega)
        have hT3 := tok_passN n hT1
        have F := r1.tr (r2.tr r3)
        have G := s1.tr (s2.tr s3)
        simp only [Nat.zero_add, n1, n2, hl, if_false, Option.bind_some, nI_1, q1, q2, hb, zt10, not_true_eq_false, f_X4_keepsIfWedAnew, f1, f2, f3, g1, g2, g3, zp_keeper (show 8 ≤ N by omega) c3 hT3, zq_keys (show 8 ≤ N by omega) d3 hT3]
        by_cases hk : zp_cd (kp (passN (zanew T m) n)) = nI m
        · simp only [hk, not_true_eq_false, if_false, zp_z1, Option.bind_some, zt10]
          exact ⟨nI m, μ3, ν3, rfl, rfl, F, G⟩
        · simp only [hk, not_false_eq_true, if_true, zp_z0, Option.bind_some]
          obtain ⟨v, μ', ν', a1, a2, a3, a4⟩ := zl_start_L hN hT hy hn f (m + 1) μ3 ν3 (by omega) (by omega) (hc.fr F (by omega)) (hr.fr (G.1 1 (by decide) (by decide)))
          exact ⟨v, μ', ν', a1, a2, F.tr a3, G.tr a4⟩
    · have hl : (nI (tn T) ≤ nI m) = True := eq_true (nI_le (by omega) (by omega))
      simp only [Nat.zero_add, n1, n2, hl, if_true]
      exact ⟨-4, μ, ν, rfl, rfl, zp_Fr.rf, zq_Fr.rf⟩
theorem zl_start_ {N : Nat} (hN : 300 ≤ N) (a : Int32) : zl_ok zr_rel (f_X4_start N 0 a) (f_X5_start N 0 a) := by
  refine zl_q (fun T μ ν h => ?_)
  obtain ⟨hc, hr, hT, hy⟩ := h
  have h7 := hT.1
  rcases zp_in (N := N) (a := 0) (b := 60) (x := a) (by omega) (by omega) with ⟨k, k1, k2, rfl, e1, e2⟩ | ⟨e1, e2⟩
  · have e1 : ∀ μ, f_X4_within N (nI k) 0 60 μ = some (1, μ) := e1
    have e2 : ∀ μ, f_X5_in N (nI k) 0 60 μ = some (1, μ) := e2
    obtain ⟨v, μ', ν', a1, a2, a3, a4⟩ := zl_start_L (n := k) hN hT hy (by omega) N 0 μ ν (by omega) (by omega) hc hr
    refine ⟨v, μ', ν', ?_, ?_, a3, a4⟩
    · unfold f_X4_start
      simp only [e1, Option.bind_some, zt10, not_false_eq_true, if_true]
      exact a1
    · unfold f_X5_start
      simp only [e2, Option.bind_some, zt10, not_false_eq_true, if_true]
      exact a2
  · have e1 : ∀ μ, f_X4_within N a 0 60 μ = some (0, μ) := e1
    have e2 : ∀ μ, f_X5_in N a 0 60 μ = some (0, μ) := e2
    refine ⟨-1, μ, ν, ?_, ?_, zp_Fr.rf, zq_Fr.rf⟩
    · unfold f_X4_start
      simp only [e1, Option.bind_some, not_true_eq_false, if_false]
    · unfold f_X5_start
      simp only [e2, Option.bind_some, not_true_eq_false, if_false]
-- rises
theorem zl_risen_L {N i j : Nat} (hN : 8 ≤ N) (hj : j < 2 ^ 31) : ∀ (f m : Nat) (x : Int32) (ν : ZM) (T : Tw), 61 < m + f → m ≤ 61 → RT ν 2 0 T → tok T → ty T + (61 - m) < 2 ^ 30 → ∃ ν', f_X5_rises_L32 N f 0 (nI i) 0 (nI j) x (nI m) ν = some (nI j, ν') ∧ zq_Fr 2 ν ν'
  | 0, m, x, ν, T, hf, hm, hr, hT, hy => absurd hf (by omega)
  | f + 1, m, x, ν, T, hf, hm, hr, hT, hy => by
    unfold f_X5_rises_L32
    have hj4 : (nI j = -4) = False := eq_false (fun q => nI_pos hj (by rw [q]; decide))
    by_cases hin : m ≤ 60
    · have hl : ((60 : Int32) < nI m) = False := eq_false (nI_nlt (a := 60) hin (by omega))
      obtain ⟨ν1, g1, d1, s1⟩ := zq_pass hN (show 2 ≠ 6 by decide) hr hT (by omega)
      simp only [hl, if_false, Nat.zero_add, zq_keys hN hr hT, Option.bind_some, nI_1, g1, zt10, if_true, hj4, not_false_eq_true]
      have ih : ∀ x, ∃ ν', f_X5_rises_L32 N f 0 (nI i) 0 (nI j) x (nI (m + 1)) ν1 = some (nI j, ν') ∧ zq_Fr 2 ν ν' := by
        intro x
        obtain ⟨ν', a1, a2⟩ := zl_risen_L hN hj f (m + 1) x ν1 (pass T) (by omega) (by omega) d1 (tok_pass hT) (by show ty T + 1 + _ < _; omega)
        exact ⟨ν', a1, s1.tr a2⟩
      by_cases hk : zp_cd (kp T) = nI i
      · simp only [hk, not_true_eq_false, if_false]
        exact ih _
      · simp only [hk, not_false_eq_true, if_true]
        exact ih _
    · have hl : ((60 : Int32) < nI m) = True := eq_true (nI_lt (a := 60) (by omega) (by omega))
      simp only [hl, if_true, not_true_eq_false, if_false]
      exact ⟨ν, rfl, zq_Fr.rf⟩
theorem zl_first_L {N i : Nat} (hN : 8 ≤ N) : ∀ (f m : Nat) (x : Int32) (μ ν : ZM) (T : Tw), 61 < m + f → m ≤ 61 → CT μ 98 T → RT ν 2 0 T → tok T → ty T + (61 - m) < 2 ^ 30 → ∃ v μ' ν', f_X4_firstYearOfKeys_L13 N f 0 (nI i) (nI m) μ = some (v, μ') ∧ f_X5_rises_L32 N f 0 (nI i) 0 (-4) x (nI m) ν = some (v, ν') ∧ zp_Fr 98 μ μ' ∧ zq_Fr 2 ν ν'
  | 0, m, x, μ, ν, T, hf, hm, hc, hr, hT, hy => absurd hf (by omega)
  | f + 1, m, x, μ, ν, T, hf, hm, hc, hr, hT, hy => by
    unfold f_X4_firstYearOfKeys_L13 f_X5_rises_L32
    by_cases hin : m ≤ 60
    · have hl : ((60 : Int32) < nI m) = False := eq_false (nI_nlt (a := 60) hin (by omega))
      obtain ⟨μ1, f1, c1, r1⟩ := zp_pass hN hc hT (by omega)
      obtain ⟨ν1, g1, d1, s1⟩ := zq_pass hN (show 2 ≠ 6 by decide) hr hT (by omega)
      simp only [hl, if_false, Nat.zero_add, zp_keeper hN hc hT, zq_keys hN hr hT, Option.bind_some, nI_1, f1, g1, zt10, if_true, not_true_eq_false]
      by_cases hk : zp_cd (kp T) = nI i
      · simp only [hk, not_true_eq_false, if_false]
        obtain ⟨ν', a1, a2⟩ := zl_risen_L (i := i) (j := m) hN (by omega) f (m + 1) (x + 1) ν1 (pass T) (by omega) (by omega) d1 (tok_pass hT) (by show ty T + 1 + _ < _; omega)
        exact ⟨nI m, μ, ν', rfl, a1, zp_Fr.rf, s1.tr a2⟩
      · simp only [hk, not_false_eq_true, if_true]
        obtain ⟨v, μ', ν', a1, a2, a3, a4⟩ := zl_first_L hN f (m + 1) (x + 0) μ1 ν1 (pass T) (by omega) (by omega) c1 d1 (tok_pass hT) (by show ty T + 1 + _ < _; omega)
        exact ⟨v, μ', ν', a1, a2, r1.tr a3, s1.tr a4⟩
    · have hl : ((60 : Int32) < nI m) = True := eq_true (nI_lt (a := 60) (by omega) (by omega))
      simp only [hl, if_true, not_true_eq_false, if_false]
      exact ⟨-4, μ, ν, rfl, rfl, zp_Fr.rf, zq_Fr.rf⟩
theorem zl_many_L {N i : Nat} (hN : 8 ≤ N) : ∀ (f m : Nat) (x y : Int32) (μ ν : ZM) (T : Tw), 61 < m + f → m ≤ 61 → CT μ 98 T → RT ν 2 0 T → tok T → ty T + (61 - m) < 2 ^ 30 → ∃ v μ' ν', f_X4_yearsOfKeys_L15 N f 0 (nI i) x (nI m) μ = some (v, μ') ∧ f_X5_rises_L32 N f 0 (nI i) 1 y x (nI m) ν = some (v, ν') ∧ zp_Fr 98 μ μ' ∧ zq_Fr 2 ν ν'
  | 0, m, x, y, μ, ν, T, hf, hm, hc, hr, hT, hy => absurd hf (by omega)
  | f + 1, m, x, y, μ, ν, T, hf, hm, hc, hr, hT, hy => by
    unfold f_X4_yearsOfKeys_L15 f_X5_rises_L32
    by_cases hin : m ≤ 60
    · have hl : ((60 : Int32) < nI m) = False := eq_false (nI_nlt (a := 60) hin (by omega))
      obtain ⟨μ1, f1, c1, r1⟩ := zp_pass hN hc hT (by omega)
      obtain ⟨ν1, g1, d1, s1⟩ := zq_pass hN (show 2 ≠ 6 by decide) hr hT (by omega)
      simp only [hl, if_false, Nat.zero_add, zp_keeper hN hc hT, zq_keys hN hr hT, Option.bind_some, nI_1, f1, g1, zt10, if_true]
      have ih : ∀ x y, ∃ v μ' ν', f_X4_yearsOfKeys_L15 N f 0 (nI i) x (nI (m + 1)) μ1 = some (v, μ') ∧ f_X5_rises_L32 N f 0 (nI i) 1 y x (nI (m + 1)) ν1 = some (v, ν') ∧ zp_Fr 98 μ μ' ∧ zq_Fr 2 ν ν' := by
        intro x y
        obtain ⟨v, μ', ν', a1, a2, a3, a4⟩ := zl_many_L hN f (m + 1) x y μ1 ν1 (pass T) (by omega) (by omega) c1 d1 (tok_pass hT) (by show ty T + 1 + _ < _; omega)
        exact ⟨v, μ', ν', a1, a2, r1.tr a3, s1.tr a4⟩
      by_cases hk : zp_cd (kp T) = nI i
      · simp only [hk, not_true_eq_false, if_false]
        by_cases hy4 : y = -4
        · simp only [hy4, not_true_eq_false, if_false]
          exact ih _ _
        · simp only [hy4, not_false_eq_true, if_true]
          exact ih _ _
      · simp only [hk, not_false_eq_true, if_true, Int32.add_zero]
        exact ih _ _
    · have hl : ((60 : Int32) < nI m) = True := eq_true (nI_lt (a := 60) (by omega) (by omega))
      simp only [hl, if_true, zt10, not_false_eq_true]
      exact ⟨x, μ, ν, rfl, rfl, zp_Fr.rf, zq_Fr.rf⟩
theorem zl_rises {N : Nat} (hN : 300 ≤ N) (c a : Int32) : zl_ok zr_rel (f_X4_rises N 0 c a) (f_X5_rises N 0 c a) := by
  refine zl_q (fun T μ ν h => ?_)
  obtain ⟨hc, hr, hT, hy⟩ := h
  have h7 := hT.1
  rcases zp_couple (N := N) (x := c) hT with ⟨i, i1, rfl, p1, p2⟩ | ⟨p1, p2⟩
  · rcases zp_in (N := N) (a := 0) (b := 1) (x := a) (by omega) (by omega) with ⟨k, k1, k2, rfl, e1, e2⟩ | ⟨e1, e2⟩
    · have e1 : ∀ μ, f_X4_within N (nI k) 0 1 μ = some (1, μ) := e1
      have e2 : ∀ μ, f_X5_in N (nI k) 0 1 μ = some (1, μ) := e2
      obtain ⟨μ1, f1, c1, r1⟩ := zp_become (N := N) (a := 98) (b := 1) hc hT.1 (by omega)
      obtain ⟨ν1, g1, d1, s1⟩ := zq_take (N := N) (by omega) hr hT
      have hk : k = 0 ∨ k = 1 := by omega
      rcases hk with rfl | rfl
      · obtain ⟨v, μ', ν', a1, a2, a3, a4⟩ := zl_first_L (N := N) (i := i) (by omega) N 0 0 μ1 ν1 T (by omega) (by omega) c1 d1 hT (by omega)
        refine ⟨v, μ', ν', ?_, ?_, r1.tr a3, s1.tr a4⟩
        · unfold f_X4_rises f_X4_firstYearOfKeys
          have a1' : f_X4_firstYearOfKeys_L13 N N 0 (nI i) 0 μ1 = some (v, μ') := a1
          have e1' : ∀ μ, f_X4_within N 0 0 1 μ = some (1, μ) := e1
          simp only [p1 μ hc, nI_0, e1', Option.bind_some, Nat.zero_add, if_false, if_true, zt10, not_false_eq_true, not_true_eq_false, f1, a1']
        · unfold f_X5_rises
          simp only [p2 ν hr, e2, Option.bind_some, if_false, if_true, zt10, not_false_eq_true, g1]
          exact a2
      · obtain ⟨v, μ', ν', a1, a2, a3, a4⟩ := zl_many_L (N := N) (i := i) (by omega) N 0 0 (-4) μ1 ν1 T (by omega) (by omega) c1 d1 hT (by omega)
        refine ⟨v, μ', ν', ?_, ?_, r1.tr a3, s1.tr a4⟩
        · unfold f_X4_rises f_X4_yearsOfKeys
          have a1' : f_X4_yearsOfKeys_L15 N N 0 (nI i) 0 0 μ1 = some (v, μ') := a1
          have e0 : (nI 1 = 0) = False := eq_false (by decide)
          simp only [p1 μ hc, e1, Option.bind_some, Nat.zero_add, e0, if_false, if_true, zt10, not_false_eq_true, f1, a1']
        · unfold f_X5_rises
          simp only [p2 ν hr, e2, Option.bind_some, if_false, if_true, zt10, not_false_eq_true, g1]
          exact a2
    · have e1 : ∀ μ, f_X4_within N a 0 1 μ = some (0, μ) := e1
      have e2 : ∀ μ, f_X5_in N a 0 1 μ = some (0, μ) := e2
      refine ⟨-1, μ, ν, ?_, ?_, zp_Fr.rf, zq_Fr.rf⟩
      · unfold f_X4_rises
        simp only [p1 μ hc, e1, Option.bind_some, zt10, not_true_eq_false, if_false]
      · unfold f_X5_rises
        simp only [p2 ν hr, e2, Option.bind_some, zt10, not_true_eq_false, if_false]
  · refine ⟨-1, μ, ν, ?_, ?_, zp_Fr.rf, zq_Fr.rf⟩
    · unfold f_X4_rises
      simp only [p1 μ hc, Option.bind_some, if_true]
    · unfold f_X5_rises
      simp only [p2 ν hr, Option.bind_some, if_true]
