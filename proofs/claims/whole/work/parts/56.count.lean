-- count, of, seed
theorem zl_tempers {N : Nat} {T : Tw} {μ ν : ZM} (hc : CT μ 1 T) (hr : RT ν 1 0 T) (hT : tok T) : ∀ (f m : Nat) (x : Int32), tn T < m + f → m ≤ tn T → ∃ v, f_X3_allTempers_L4 N f 1 x (nI m) μ = some (v, μ) ∧ f_X5_count_L84 N f 0 x (nI m) ν = some (v, ν)
  | 0, m, x, hf, hm => absurd hf (by omega)
  | f + 1, m, x, hf, hm => by
    unfold f_X3_allTempers_L4 f_X5_count_L84
    have h7 := hT.1
    have n1 : μ.1 1 4 = nI (tn T) := hc.1
    have n2 : ν.1 1 0 = nI (tn T) := hr.1
    by_cases hin : m < tn T
    · have hl : (nI (tn T) ≤ nI m) = False := eq_false (nI_ge hin (by omega))
      have q1 := zp_isT (N := N) hc (tok_g hT) (show m < 7 by omega)
      have q2 := zq_parted (N := N) hr hT hin
      rw [show (25 : Int32) = nI 25 from rfl, nI_add]
      by_cases hb : (tg T).testBit m = true
      · simp only [Nat.zero_add, n1, n2, hl, if_false, Option.bind_some, nI_1, q1, q2, hb, if_true, zt10, zp_o (show m < 7 by omega) (show 7 < 2 ^ 31 by omega), nI_clamp (show m < 2 ^ 31 by omega), zp_o (show 25 + m < 32 by omega) (show 32 < 2 ^ 31 by omega), nI_clamp (show 25 + m < 2 ^ 31 by omega), Bool.false_eq_true]
        have e1 : μ.1 (1 + 4) m = nI (tt T m) := (hc.2.2.2.2 m hin).2.2.2
        have e2 : ν.1 1 (25 + m) = nI (tt T m) := (zq_at hr hin).2.2.2
        rw [e1, e2]
        exact zl_tempers hc hr hT f (m + 1) _ (by omega) (by omega)
      · simp only [Nat.zero_add, n1, n2, hl, if_false, Option.bind_some, nI_1, q1, q2, hb, if_true, zt10, Bool.false_eq_true, Int32.add_zero]
        exact zl_tempers hc hr hT f (m + 1) _ (by omega) (by omega)
    · have hl : (nI (tn T) ≤ nI m) = True := eq_true (nI_le (by omega) (by omega))
      simp only [Nat.zero_add, n1, n2, hl, if_true]
      exact ⟨x, rfl, rfl⟩
theorem zl_count {N : Nat} (hN : 300 ≤ N) (a : Int32) : zl_ok zr_rel (f_X4_count N 0 a) (f_X5_count N 0 a) := by
  intro μ ν hR
  obtain ⟨⟨T, hc, hr, hT, hy⟩, ⟨nx, sz, P, p1, p2, p3, p4, p5, p6⟩, _⟩ := id hR
  have h7 := hT.1
  have n1 : μ.1 1 4 = nI (tn T) := hc.1
  have n2 : ν.1 1 0 = nI (tn T) := hr.1
  have y1 : μ.1 1 6 = nI (ty T) := hc.2.2.1
  have y2 : ν.1 1 1 = nI (ty T) := hr.2.1
  have g1 : μ.1 1 5 = nI (tg T) := hc.2.1
  have one : ∀ v, f_X4_count N 0 a μ = some (v, μ) → f_X5_count N 0 a ν = some (v, ν) → ∃ v μ' ν', f_X4_count N 0 a μ = some (v, μ') ∧ f_X5_count N 0 a ν = some (v, ν') ∧ zr_rel μ' ν' := fun v h1 h2 => ⟨v, μ, ν, h1, h2, hR⟩
  obtain ⟨v5, t1, t2⟩ := zl_tempers (N := N) hc hr hT N 0 0 (by omega) (by omega)
  have t1 : f_X3_allTempers_L4 N N 1 0 0 μ = some (v5, μ) := t1
  have t2 : f_X5_count_L84 N N 0 0 0 ν = some (v5, ν) := t2
  unfold f_X4_count f_X5_count f_X3_allTempers at one ⊢
  simp only [Nat.zero_add, n1, n2, y1, y2, g1, p4, p5, zp_keeper (show 8 ≤ N by omega) hc hT, zq_keys (show 8 ≤ N by omega) hr hT, zq_second (show 8 ≤ N by omega) hr hT, zp_second (show 8 ≤ N by omega) hc hT, Option.bind_some, zq_tog hr hT, t1, t2] at one ⊢
  by_cases h0 : a = 0
  · simp only [h0, if_true] at one ⊢
    exact one _ rfl rfl
  by_cases h1 : a = 1
  · simp only [h0, h1, zt10, if_false, if_true] at one ⊢
    exact one _ rfl rfl
  by_cases h2 : a = 2
  · simp only [h0, h1, h2, if_false, if_true] at one ⊢
    exact one _ rfl rfl
  by_cases h3 : a = 3
  · simp only [h0, h1, h2, h3, if_false, if_true] at one ⊢
    exact one _ rfl rfl
  by_cases h4 : a = 4
  · simp only [h0, h1, h2, h3, h4, if_false, if_true] at one ⊢
    exact one _ rfl rfl
  by_cases h5 : a = 5
  · simp only [h0, h1, h2, h3, h4, h5, if_false, if_true] at one ⊢
    exact one _ rfl rfl
  by_cases h6 : a = 6
  · simp only [h0, h1, h2, h3, h4, h5, h6, if_false, if_true] at one ⊢
    exact one _ rfl rfl
  simp only [h0, h1, h2, h3, h4, h5, h6, if_false] at one ⊢
  exact one _ rfl rfl
theorem zl_of {N : Nat} (hN : 300 ≤ N) (c a : Int32) : zl_ok zr_rel (f_X4_of N 0 c a) (f_X5_of N 0 c a) := by
  refine zl_q (fun T μ ν h => ?_)
  obtain ⟨hc, hr, hT, hy⟩ := h
  have h7 := hT.1
  have one : ∀ v, f_X4_of N 0 c a μ = some (v, μ) → f_X5_of N 0 c a ν = some (v, ν) → ∃ v μ' ν', f_X4_of N 0 c a μ = some (v, μ') ∧ f_X5_of N 0 c a ν = some (v, ν') ∧ zp_Fr 98 μ μ' ∧ zq_Fr 2 ν ν' := fun v h1 h2 => ⟨v, μ, ν, h1, h2, zp_Fr.rf, zq_Fr.rf⟩
  rcases zp_couple (N := N) (x := c) hT with ⟨i, i1, rfl, p1, p2⟩ | ⟨p1, p2⟩
  · have i7 : i < 7 := by omega
    obtain ⟨b1, b2, b3, b4⟩ := hT.2.2.2 i i1
    have q1 := zp_isT (N := N) hc (tok_g hT) i7
    have q2 := zq_parted (N := N) hr hT i1
    obtain ⟨u1, u2, u3, u4⟩ := hc.2.2.2.2 i i1
    obtain ⟨w1, w2, w3, w4⟩ := zq_at hr i1
    have k1 := zp_worse (N := N) (c1 := zp_cd (kp T)) (c2 := zp_cd (sc T)) hc h7 i1 b1 (by omega) b4
    have k2 := zq_worse (N := N) (by omega) hr hT i1 (by omega)
    rw [zp_dc (T := T) i7 (fun k hk => by have := (kp_lt hk).1; omega), zp_dc (T := T) i7 (fun k hk => by have := sc_lt hk; omega)] at k1
    refine one ?v ?_ ?_
    case v => exact if a = 0 then nI (tk T i) else if a = 1 then nI (tw T i) else if a = 2 then nI (to_ T i) else if a = 3 then nI (tt T i) else if a = 4 then (if (tg T).testBit i then 0 else 1) else if a = 5 then (if (tg T).testBit i then Int32.ofInt (wz (decide (kp T = some i)) (decide (sc T = some i)) (tk T i) (ty T) (tt T i)) + 10 else 10) else -1
    · unfold f_X4_of f_X3_worseThisYear
      simp only [p1 μ hc, Option.bind_some, Nat.zero_add, zt10, not_false_eq_true, if_true, zp_o i7 (show 7 < 2 ^ 31 by omega), nI_clamp (show i < 2 ^ 31 by omega), Bool.false_eq_true, if_false, q1, u1, u2, u3, u4, zp_keeper (show 8 ≤ N by omega) hc hT, zp_second (show 8 ≤ N by omega) hc hT, k1]
      by_cases hb : (tg T).testBit i = true
      · simp only [hb, if_true, zt10, if_false]
        repeat' split
        all_goals first | rfl | (exfalso; simp_all)
      · simp only [hb, if_true, if_false, Bool.false_eq_true]
        repeat' split
        all_goals first | rfl | (exfalso; simp_all)
    · unfold f_X5_of
      rw [show (25 : Int32) = nI 25 from rfl, show (11 : Int32) = nI 11 from rfl, show (18 : Int32) = nI 18 from rfl, show (4 : Int32) + nI i = nI 4 + nI i from rfl, nI_add, nI_add, nI_add, nI_add]
      simp only [p2 ν hr, Option.bind_some, Nat.zero_add, zt10, not_false_eq_true, if_true, zp_o (show 25 + i < 32 by omega) (show 32 < 2 ^ 31 by omega), zp_o (show 11 + i < 32 by omega) (show 32 < 2 ^ 31 by omega), zp_o (show 18 + i < 32 by omega) (show 32 < 2 ^ 31 by omega), zp_o (show 4 + i < 32 by omega) (show 32 < 2 ^ 31 by omega), nI_clamp (show 25 + i < 2 ^ 31 by omega), nI_clamp (show 11 + i < 2 ^ 31 by omega), nI_clamp (show 18 + i < 2 ^ 31 by omega), nI_clamp (show 4 + i < 2 ^ 31 by omega), Bool.false_eq_true, if_false, q2, w1, w2, w3, w4, k2]
      by_cases hb : (tg T).testBit i = true
      · simp only [hb, if_true, zt10, if_false]
        repeat' split
        all_goals first | rfl | (exfalso; simp_all)
      · simp only [hb, if_true, if_false, zt10, Bool.false_eq_true]
        repeat' split
        all_goals first | rfl | (exfalso; simp_all)
  · refine one (-1) ?_ ?_
    · unfold f_X4_of
      simp only [p1 μ hc, Option.bind_some, not_true_eq_false, if_false]
    · unfold f_X5_of
      simp only [p2 ν hr, Option.bind_some, not_true_eq_false, if_false]
theorem zl_seed {N : Nat} (a : Int32) : zl_ok zr_rel (f_X4_seed N 0 a) (f_X5_seed N 0 a) := by
  intro μ ν hR
  obtain ⟨⟨T, hc, hr, hT, hy⟩, hp, _⟩ := id hR
  unfold f_X4_seed f_X5_seed
  have d1 : μ.1 1 7 = nI (td T) := hc.2.2.2.1
  have d2 : ν.1 1 3 = nI (td T) := hr.2.2.2.1
  rcases zp_num a with h | ⟨k, hk, rfl⟩
  · have h0 : ((0 : Int32) ≤ a) = False := eq_false (by rw [Int32.not_le]; exact h)
    simp only [h0, if_false]
    exact ⟨-1, μ, ν, rfl, rfl, hR⟩
  · have h0 : ((0 : Int32) ≤ nI k) = True := eq_true (nI_le (a := 0) (Nat.zero_le _) hk)
    simp only [h0, if_true, Nat.zero_add, d1, d2]
    refine ⟨nI (td T), _, _, rfl, rfl, zr_do hR ⟨Td T k, hc.d k, hr.d k, tok_d hT hk, hy⟩ (hp.fr (fun q q1 q2 => by simp [zk_si, show q ≠ 1 by omega]) (by simp [zk_si]) (by simp [zk_si])) (fun q q1 q2 => by simp [zk_si, show q ≠ 1 by omega]) rfl (fun q q0 q1 q2 q3 q6 => by simp [zk_si, q1]) (fun j hj => by simp [zk_si]) rfl⟩
