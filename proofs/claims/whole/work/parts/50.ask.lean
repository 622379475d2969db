-- what is asked
theorem zt10 : ((1 : Int32) = 0) = False := eq_false (by decide)
theorem zl_q {f g : ZM → Option (Int32 × ZM)} (h : ∀ T μ ν, zr_now T μ ν → ∃ v μ' ν', f μ = some (v, μ') ∧ g ν = some (v, ν') ∧ zp_Fr 98 μ μ' ∧ zq_Fr 2 ν ν') : zl_ok zr_rel f g := by
  intro μ ν hR
  obtain ⟨T, hn⟩ := hR.1
  obtain ⟨v, μ', ν', h1, h2, h3, h4⟩ := h T μ ν hn
  exact ⟨v, μ', ν', h1, h2, zr_ask hR h3 h4⟩
theorem zl_keys {N : Nat} (hN : 300 ≤ N) (a : Int32) : zl_ok zr_rel (f_X4_keys N 0 a) (f_X5_keys N 0 a) := by
  refine zl_q (fun T μ ν h => ?_)
  obtain ⟨hc, hr, hT, hy⟩ := h
  rcases zp_in (N := N) (a := 0) (b := 60) (x := a) (by omega) (by omega) with ⟨k, k1, k2, rfl, e1, e2⟩ | ⟨e1, e2⟩
  · have e1 : ∀ μ, f_X4_within N (nI k) 0 60 μ = some (1, μ) := e1
    have e2 : ∀ μ, f_X5_in N (nI k) 0 60 μ = some (1, μ) := e2
    obtain ⟨μ1, f1, c1, r1⟩ := zp_become (N := N) (a := 98) (b := 1) hc hT.1 (by omega)
    obtain ⟨μ2, f2, c2, r2⟩ := zp_years hN (n := k) (by omega) c1 hT (by omega)
    obtain ⟨ν1, g1, d1, s1⟩ := zq_take (N := N) (by omega) hr hT
    obtain ⟨ν2, g2, d2, s2⟩ := zq_goOn hN (n := k) (by omega) d1 hT (by omega)
    refine ⟨zp_cd (kp (passN T k)), μ2, ν2, ?_, ?_, r1.tr r2, s1.tr s2⟩
    · unfold f_X4_keys
      simp only [e1, Option.bind_some, Nat.zero_add, f1, f2, zp_keeper (show 8 ≤ N by omega) c2 (tok_passN k hT), zt10, not_false_eq_true, reduceIte]
    · unfold f_X5_keys
      simp only [e2, Option.bind_some, Nat.zero_add, g1, g2, zq_keys (show 8 ≤ N by omega) d2 (tok_passN k hT), zt10, not_false_eq_true, reduceIte]
  · have e1 : ∀ μ, f_X4_within N a 0 60 μ = some (0, μ) := e1
    have e2 : ∀ μ, f_X5_in N a 0 60 μ = some (0, μ) := e2
    refine ⟨-1, μ, ν, ?_, ?_, zp_Fr.rf, zq_Fr.rf⟩
    · unfold f_X4_keys
      simp only [e1, Option.bind_some, not_true_eq_false, reduceIte]
    · unfold f_X5_keys
      simp only [e2, Option.bind_some, not_true_eq_false, reduceIte]
theorem zq_tog_e : ∀ n, n < 8 → ∀ g, g < 2 ^ n → ((((1 : Int32) <<< (nI n &&& 31)) - 1) &&& (nI (2 ^ n - 1 - g) ^^^ (-1))) = nI g := by decide +kernel
theorem zq_tog {N r : Nat} {ν : ZM} {T : Tw} (h : RT ν r 0 T) (hT : tok T) : f_X5_togetherOf N r ν = some (nI (tg T), ν) := by
  have h7 := hT.1
  have e1 : ν.1 r 0 = nI (tn T) := h.1
  have e2 : ν.1 r 2 = nI (2 ^ tn T - 1 - tg T) := h.2.2.1
  unfold f_X5_togetherOf
  rw [e1, e2, zq_tog_e (tn T) (by omega) (tg T) hT.2.1]
theorem zl_then {N : Nat} (hN : 300 ≤ N) (a : Int32) : zl_ok zr_rel (f_X4_then N 0 a) (f_X5_then N 0 a) := by
  refine zl_q (fun T μ ν h => ?_)
  obtain ⟨hc, hr, hT, hy⟩ := h
  rcases zp_in (N := N) (a := 0) (b := 60) (x := a) (by omega) (by omega) with ⟨k, k1, k2, rfl, e1, e2⟩ | ⟨e1, e2⟩
  · have e1 : ∀ μ, f_X4_within N (nI k) 0 60 μ = some (1, μ) := e1
    have e2 : ∀ μ, f_X5_in N (nI k) 0 60 μ = some (1, μ) := e2
    obtain ⟨μ1, f1, c1, r1⟩ := zp_become (N := N) (a := 98) (b := 1) hc hT.1 (by omega)
    obtain ⟨μ2, f2, c2, r2⟩ := zp_years hN (n := k) (by omega) c1 hT (by omega)
    obtain ⟨ν1, g1, d1, s1⟩ := zq_take (N := N) (by omega) hr hT
    obtain ⟨ν2, g2, d2, s2⟩ := zq_goOn hN (n := k) (by omega) d1 hT (by omega)
    refine ⟨nI (tg (passN T k)), μ2, ν2, ?_, ?_, r1.tr r2, s1.tr s2⟩
    · unfold f_X4_then
      simp only [e1, Option.bind_some, Nat.zero_add, f1, f2, zt10, not_false_eq_true, reduceIte, c2.2.1]
    · unfold f_X5_then
      simp only [e2, Option.bind_some, Nat.zero_add, g1, g2, zq_tog d2 (tok_passN k hT), zt10, not_false_eq_true, reduceIte]
  · have e1 : ∀ μ, f_X4_within N a 0 60 μ = some (0, μ) := e1
    have e2 : ∀ μ, f_X5_in N a 0 60 μ = some (0, μ) := e2
    refine ⟨-1, μ, ν, ?_, ?_, zp_Fr.rf, zq_Fr.rf⟩
    · unfold f_X4_then
      simp only [e1, Option.bind_some, not_true_eq_false, reduceIte]
    · unfold f_X5_then
      simp only [e2, Option.bind_some, not_true_eq_false, reduceIte]
theorem zl_ahead {N : Nat} (hN : 300 ≤ N) (c a : Int32) : zl_ok zr_rel (f_X4_ahead N 0 c a) (f_X5_ahead N 0 c a) := by
  refine zl_q (fun T μ ν h => ?_)
  obtain ⟨hc, hr, hT, hy⟩ := h
  have h7 := hT.1
  rcases zp_couple (N := N) (x := c) hT with ⟨i, i1, rfl, p1, p2⟩ | ⟨p1, p2⟩
  · rcases zp_in (N := N) (a := 0) (b := 60) (x := a) (by omega) (by omega) with ⟨k, k1, k2, rfl, e1, e2⟩ | ⟨e1, e2⟩
    · have e1 : ∀ μ, f_X4_within N (nI k) 0 60 μ = some (1, μ) := e1
      have e2 : ∀ μ, f_X5_in N (nI k) 0 60 μ = some (1, μ) := e2
      obtain ⟨μ1, f1, c1, r1⟩ := zp_become (N := N) (a := 98) (b := 1) hc hT.1 (by omega)
      obtain ⟨μ2, f2, c2, r2⟩ := zp_years hN (n := k) (by omega) c1 hT (by omega)
      obtain ⟨ν1, g1, d1, s1⟩ := zq_take (N := N) (by omega) hr hT
      obtain ⟨ν2, g2, d2, s2⟩ := zq_goOn hN (n := k) (by omega) d1 hT (by omega)
      have i2 : i < tn (passN T k) := by rw [tn_passN]; exact i1
      refine ⟨nI (tt (passN T k) i), μ2, ν2, ?_, ?_, r1.tr r2, s1.tr s2⟩
      · unfold f_X4_ahead
        simp only [p1 μ hc, e1, Option.bind_some, Nat.zero_add, f1, f2, zt10, not_false_eq_true, reduceIte, zp_o (show i < 7 by omega) (show 7 < 2 ^ 31 by omega), nI_clamp (show i < 2 ^ 31 by omega), Bool.false_eq_true]
        exact congrArg some (Prod.ext ((c2.2.2.2.2 i i2).2.2.2) rfl)
      · unfold f_X5_ahead
        rw [show (25 : Int32) = nI 25 from rfl, nI_add]
        simp only [p2 ν hr, e2, Option.bind_some, Nat.zero_add, g1, g2, zt10, not_false_eq_true, reduceIte, zp_o (show 25 + i < 32 by omega) (show 32 < 2 ^ 31 by omega), nI_clamp (show 25 + i < 2 ^ 31 by omega), Bool.false_eq_true]
        exact congrArg some (Prod.ext ((zq_at d2 i2).2.2.2) rfl)
    · have e1 : ∀ μ, f_X4_within N a 0 60 μ = some (0, μ) := e1
      have e2 : ∀ μ, f_X5_in N a 0 60 μ = some (0, μ) := e2
      refine ⟨-1, μ, ν, ?_, ?_, zp_Fr.rf, zq_Fr.rf⟩
      · unfold f_X4_ahead
        simp only [p1 μ hc, e1, Option.bind_some, zt10, not_true_eq_false, reduceIte]
      · unfold f_X5_ahead
        simp only [p2 ν hr, e2, Option.bind_some, zt10, not_true_eq_false, reduceIte]
  · refine ⟨-1, μ, ν, ?_, ?_, zp_Fr.rf, zq_Fr.rf⟩
    · unfold f_X4_ahead
      simp only [p1 μ hc, Option.bind_some, reduceIte]
    · unfold f_X5_ahead
      simp only [p2 ν hr, Option.bind_some, reduceIte]
