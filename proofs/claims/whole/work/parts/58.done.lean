-- what is done: years, nurse, stir, wed
theorem zl_years_L {N n : Nat} (hN : 300 ≤ N) (hn : n ≤ 40) : ∀ (f m : Nat) (μ ν : ZM) (T : Tw), n < m + f → m ≤ n → zd T μ ν → ty T + (n - m) ≤ 9999 → ∃ v μ' ν' T', f_X4_years_L32 N f 0 (nI n) (nI m) μ = some (v, μ') ∧ f_X5_years_L31 N f 0 (nI n) (nI m) ν = some (v, ν') ∧ zd T' μ' ν' ∧ zdF μ μ' ∧ zdG ν ν'
  | 0, m, μ, ν, T, hf, hm, hd, hy => absurd hf (by omega)
  | f + 1, m, μ, ν, T, hf, hm, hd, hy => by
    unfold f_X4_years_L32 f_X5_years_L31
    by_cases hin : m < n
    · have hl : (nI n ≤ nI m) = False := eq_false (nI_ge hin (by omega))
      obtain ⟨μ1, ν1, f1, g1, d1, F1, G1⟩ := zd_note hN hd
      obtain ⟨hc, hr, hT, hy1⟩ := d1.1
      obtain ⟨μ2, f2, c2, r2⟩ := zp_pass (N := N) (by omega) hc hT (by omega)
      obtain ⟨ν2, g2, e2, s2⟩ := zq_pass (N := N) (by omega) (show 1 ≠ 6 by decide) hr hT (by omega)
      obtain ⟨d2, F2, G2⟩ := zd_deed d1 r2 s2 c2 e2 (tok_pass hT) (show ty T + 1 ≤ 9999 by omega)
      simp only [hl, if_false, Nat.zero_add, f1, g1, f2, g2, Option.bind_some, nI_1]
      obtain ⟨v, μ', ν', T', a1, a2, a3, a4, a5⟩ := zl_years_L hN hn f (m + 1) μ2 ν2 (pass T) (by omega) (by omega) d2 (by show ty T + 1 + _ ≤ _; omega)
      exact ⟨v, μ', ν', T', a1, a2, a3, (F1.tr F2).tr a4, (G1.tr G2).tr a5⟩
    · have hl : (nI n ≤ nI m) = True := eq_true (nI_le (by omega) (by omega))
      obtain ⟨hc, hr, hT, hy1⟩ := hd.1
      simp only [hl, if_true, Nat.zero_add, zp_keeper (show 8 ≤ N by omega) hc hT, zq_keys (show 8 ≤ N by omega) hr hT, Option.bind_some]
      exact ⟨_, μ, ν, T, rfl, rfl, hd, zdF.rf, zdG.rf⟩
theorem zl_years {N : Nat} (hN : 300 ≤ N) (a : Int32) : zl_ok zr_rel (f_X4_years N 0 a) (f_X5_years N 0 a) := by
  intro μ ν hR
  obtain ⟨⟨T, hn⟩, hp, _⟩ := id hR
  obtain ⟨hc, hr, hT, hy⟩ := id hn
  have y1 : μ.1 1 6 = nI (ty T) := hc.2.2.1
  have y2 : ν.1 1 1 = nI (ty T) := hr.2.1
  unfold f_X4_years f_X5_years
  rcases zp_in (N := N) (a := 1) (b := 40) (x := a) (by omega) (by omega) with ⟨k, k1, k2, rfl, e1, e2⟩ | ⟨e1, e2⟩
  · have e1 : ∀ μ, f_X4_within N (nI k) 1 40 μ = some (1, μ) := e1
    have e2 : ∀ μ, f_X5_in N (nI k) 1 40 μ = some (1, μ) := e2
    simp only [e1, e2, Option.bind_some, zt10, not_false_eq_true, if_true, Nat.zero_add, y1, y2, nI_add]
    by_cases hk : ty T + k ≤ 9999
    · have hl : (nI (ty T + k) ≤ 9999) = True := eq_true (nI_le (b := 9999) hk (by omega))
      simp only [hl, if_true]
      obtain ⟨v, μ', ν', T', a1, a2, a3, a4, a5⟩ := zl_years_L (n := k) hN (by omega) N 0 μ ν T (by omega) (by omega) ⟨hn, hp⟩ (by omega)
      exact ⟨v, μ', ν', a1, a2, zd_end hR a3 a4 a5⟩
    · have hl : (nI (ty T + k) ≤ 9999) = False := eq_false (nI_ge (a := 9999) (by omega) (by omega))
      simp only [hl, if_false]
      exact ⟨-3, μ, ν, rfl, rfl, hR⟩
  · have e1 : ∀ μ, f_X4_within N a 1 40 μ = some (0, μ) := e1
    have e2 : ∀ μ, f_X5_in N a 1 40 μ = some (0, μ) := e2
    simp only [e1, e2, Option.bind_some, not_true_eq_false, if_false]
    exact ⟨-1, μ, ν, rfl, rfl, hR⟩
theorem zl_nurse {N : Nat} (hN : 300 ≤ N) (c a : Int32) : zl_ok zr_rel (f_X4_nurse N 0 c a) (f_X5_nurse N 0 c a) := by
  intro μ ν hR
  obtain ⟨⟨T, hn⟩, hp, _⟩ := id hR
  obtain ⟨hc, hr, hT, hy⟩ := id hn
  have h7 := hT.1
  unfold f_X4_nurse f_X5_nurse
  rcases zp_couple (N := N) (x := c) hT with ⟨i, i1, rfl, p1, p2⟩ | ⟨p1, p2⟩
  · rcases zp_in (N := N) (a := 1) (b := 19) (x := a) (by omega) (by omega) with ⟨k, k1, k2, rfl, e1, e2⟩ | ⟨e1, e2⟩
    · have e1 : ∀ μ, f_X4_within N (nI k) 1 19 μ = some (1, μ) := e1
      have e2 : ∀ μ, f_X5_in N (nI k) 1 19 μ = some (1, μ) := e2
      have q1 := zp_isT (N := N) hc (tok_g hT) (show i < 7 by omega)
      have q2 := zq_parted (N := N) hr hT i1
      have u4 := (hc.2.2.2.2 i i1).2.2.2
      have w4 := (zq_at hr i1).2.2.2
      have ht := (hT.2.2.2 i i1).2.2.2
      rw [show (25 : Int32) = nI 25 from rfl, nI_add]
      simp only [p1 μ hc, p2 ν hr, e1, e2, Option.bind_some, zt10, not_false_eq_true, if_true, if_false, Nat.zero_add, q1, q2, zp_o (show i < 7 by omega) (show 7 < 2 ^ 31 by omega), nI_clamp (show i < 2 ^ 31 by omega), zp_o (show 25 + i < 32 by omega) (show 32 < 2 ^ 31 by omega), nI_clamp (show 25 + i < 2 ^ 31 by omega), Bool.false_eq_true, u4, w4]
      by_cases hb : (tg T).testBit i = true
      · simp only [hb, if_true, zt10, if_false, not_true_eq_false]
        by_cases h0 : nI (tt T i) = 0
        · simp only [h0, not_true_eq_false, if_false]
          exact ⟨-2, μ, ν, rfl, rfl, hR⟩
        · obtain ⟨μ1, ν1, f1, g1, d1, F1, G1⟩ := zd_note hN ⟨hn, hp⟩
          obtain ⟨hc1, hr1, _, _⟩ := d1.1
          obtain ⟨μ2, f2, c2, r2⟩ := zp_better (N := N) (n := k) hc1 hT i1 (by omega)
          obtain ⟨ν2, g2, e2, s2⟩ := zq_nurse (N := N) (n := k) hr1 hT i1 (by omega)
          obtain ⟨d2, F2, G2⟩ := zd_deed d1 r2 s2 c2 e2 (tok_t hT (by omega)) hy
          have x1 := (c2.2.2.2.2 i i1).2.2.2
          have x2 := (zq_at e2 i1).2.2.2
          simp only [h0, not_false_eq_true, if_true, f1, g1, f2, g2, Option.bind_some, x1, x2]
          exact ⟨_, μ2, ν2, rfl, rfl, zd_end hR d2 (F1.tr F2) (G1.tr G2)⟩
      · simp only [hb, if_true, zt10, if_false, not_false_eq_true, Bool.false_eq_true]
        exact ⟨-2, μ, ν, rfl, rfl, hR⟩
    · have e1 : ∀ μ, f_X4_within N a 1 19 μ = some (0, μ) := e1
      have e2 : ∀ μ, f_X5_in N a 1 19 μ = some (0, μ) := e2
      simp only [p1 μ hc, p2 ν hr, e1, e2, Option.bind_some, zt10, not_true_eq_false, if_false]
      exact ⟨-1, μ, ν, rfl, rfl, hR⟩
  · simp only [p1 μ hc, p2 ν hr, Option.bind_some, if_true]
    exact ⟨-1, μ, ν, rfl, rfl, hR⟩
theorem zl_stir {N : Nat} (hN : 300 ≤ N) (c a : Int32) : zl_ok zr_rel (f_X4_stir N 0 c a) (f_X5_stir N 0 c a) := by
  intro μ ν hR
  obtain ⟨⟨T, hn⟩, hp, _⟩ := id hR
  obtain ⟨hc, hr, hT, hy⟩ := id hn
  have h7 := hT.1
  unfold f_X4_stir f_X5_stir
  rcases zp_couple (N := N) (x := c) hT with ⟨i, i1, rfl, p1, p2⟩ | ⟨p1, p2⟩
  · rcases zp_in (N := N) (a := 1) (b := 20) (x := a) (by omega) (by omega) with ⟨k, k1, k2, rfl, e1, e2⟩ | ⟨e1, e2⟩
    · have e1 : ∀ μ, f_X4_within N (nI k) 1 20 μ = some (1, μ) := e1
      have e2 : ∀ μ, f_X5_in N (nI k) 1 20 μ = some (1, μ) := e2
      have q1 := zp_isT (N := N) hc (tok_g hT) (show i < 7 by omega)
      have q2 := zq_parted (N := N) hr hT i1
      rw [show (25 : Int32) = nI 25 from rfl, nI_add]
      simp only [p1 μ hc, p2 ν hr, e1, e2, Option.bind_some, zt10, not_false_eq_true, if_true, if_false, Nat.zero_add, q1, q2, zp_o (show i < 7 by omega) (show 7 < 2 ^ 31 by omega), nI_clamp (show i < 2 ^ 31 by omega), zp_o (show 25 + i < 32 by omega) (show 32 < 2 ^ 31 by omega), nI_clamp (show 25 + i < 2 ^ 31 by omega), Bool.false_eq_true]
      by_cases hb : (tg T).testBit i = true
      · obtain ⟨μ1, ν1, f1, g1, d1, F1, G1⟩ := zd_note hN ⟨hn, hp⟩
        obtain ⟨hc1, hr1, _, _⟩ := d1.1
        obtain ⟨μ2, f2, c2, r2⟩ := zp_stir (N := N) (n := k) hc1 hT i1 (by omega)
        obtain ⟨ν2, g2, e2, s2⟩ := zq_stir (N := N) (n := k) hr1 hT i1 (by omega)
        have ety : ty (zwo T i (tt T i + k)) = ty T := by unfold zwo; split <;> rfl
        have etn : tn (zwo T i (tt T i + k)) = tn T := by unfold zwo; split <;> rfl
        obtain ⟨d2, F2, G2⟩ := zd_deed d1 r2 s2 c2 e2 (tok_wo hT) (by rw [ety]; exact hy)
        have i2 : i < tn (zwo T i (tt T i + k)) := by rw [etn]; exact i1
        have x1 := (c2.2.2.2.2 i i2).2.2.2
        have x2 := (zq_at e2 i2).2.2.2
        simp only [hb, if_true, zt10, if_false, not_false_eq_true, f1, g1, f2, g2, Option.bind_some, x1, x2]
        exact ⟨_, μ2, ν2, rfl, rfl, zd_end hR d2 (F1.tr F2) (G1.tr G2)⟩
      · simp only [hb, if_true, zt10, if_false, not_true_eq_false, Bool.false_eq_true]
        exact ⟨-2, μ, ν, rfl, rfl, hR⟩
    · have e1 : ∀ μ, f_X4_within N a 1 20 μ = some (0, μ) := e1
      have e2 : ∀ μ, f_X5_in N a 1 20 μ = some (0, μ) := e2
      simp only [p1 μ hc, p2 ν hr, e1, e2, Option.bind_some, zt10, not_true_eq_false, if_false]
      exact ⟨-1, μ, ν, rfl, rfl, hR⟩
  · simp only [p1 μ hc, p2 ν hr, Option.bind_some, if_true]
    exact ⟨-1, μ, ν, rfl, rfl, hR⟩
theorem zl_wed {N : Nat} (hN : 300 ≤ N) (c : Int32) : zl_ok zr_rel (f_X4_wed N 0 c) (f_X5_wed N 0 c) := by
  intro μ ν hR
  obtain ⟨⟨T, hn⟩, hp, _⟩ := id hR
  obtain ⟨hc, hr, hT, hy⟩ := id hn
  have h7 := hT.1
  unfold f_X4_wed f_X5_wed
  rcases zp_couple (N := N) (x := c) hT with ⟨i, i1, rfl, p1, p2⟩ | ⟨p1, p2⟩
  · have q1 := zp_isT (N := N) hc (tok_g hT) (show i < 7 by omega)
    have q2 := zq_parted (N := N) hr hT i1
    simp only [p1 μ hc, p2 ν hr, Option.bind_some, zt10, not_false_eq_true, if_true, Nat.zero_add, q1, q2]
    by_cases hb : (tg T).testBit i = true
    · simp only [hb, if_true, zt10, if_false, not_true_eq_false]
      exact ⟨-2, μ, ν, rfl, rfl, hR⟩
    · obtain ⟨μ1, ν1, f1, g1, d1, F1, G1⟩ := zd_note hN ⟨hn, hp⟩
      obtain ⟨hc1, hr1, _, _⟩ := d1.1
      obtain ⟨μ2, f2, c2, r2⟩ := zp_anew (N := N) hc1 hT i1
      obtain ⟨ν2, g2, e2, s2⟩ := zq_anew (N := N) hr1 hT i1
      obtain ⟨d2, F2, G2⟩ := zd_deed d1 r2 s2 c2 e2 (tok_anew hT i1) hy
      simp only [hb, if_true, zt10, if_false, not_false_eq_true, Bool.false_eq_true, f1, g1, f2, g2, Option.bind_some, zp_keeper (show 8 ≤ N by omega) c2 (tok_anew hT i1), zq_keys (show 8 ≤ N by omega) e2 (tok_anew hT i1)]
      exact ⟨_, μ2, ν2, rfl, rfl, zd_end hR d2 (F1.tr F2) (G1.tr G2)⟩
  · simp only [p1 μ hc, p2 ν hr, Option.bind_some, not_true_eq_false, if_false]
    exact ⟨-1, μ, ν, rfl, rfl, hR⟩
