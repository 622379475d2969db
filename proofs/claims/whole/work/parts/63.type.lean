-- type
theorem zp_byt : ∀ k, k < 127 → vp_nar .byte (Int8.toInt32 (Int32.toInt8 (nI k))) = nI k := by decide +kernel
/-- nothing but the tape has changed -/
theorem zr_tp {μ ν μ' ν' : ZM} (h : zr_rel μ ν) (ht : zr_tape μ' ν') (f1 : ∀ k, k ≠ 95 → k ≠ 96 → (k < 98 ∨ 102 < k) → μ'.1 k = μ.1 k) (f2 : μ'.2 = μ.2) (g1 : ∀ k, k ≠ 0 → k ≠ 2 → k ≠ 6 → k ≠ 7 → ν'.1 k = ν.1 k) (g0 : ∀ j, j < 10 → ν'.1 0 j = ν.1 0 j) (g2 : ν'.2 = ν.2) : zr_rel μ' ν' := by
  obtain ⟨⟨T, h1, h2, h3⟩, hp, hk, _, hs⟩ := h
  have G : ∀ k, k ≠ 0 → k ≠ 2 → k ≠ 6 → k ≠ 7 → ν'.1 k = ν.1 k := g1
  refine ⟨⟨T, h1.fr' (fun k k1 k2 => f1 k (by omega) (by omega) (by omega)), h2.fr (G 1 (by decide) (by decide) (by decide) (by decide)), h3⟩, hp.fr (fun k k1 k2 => f1 k (by omega) (by omega) (by omega)) (G 3 (by decide) (by decide) (by decide) (by decide)) (g0 3 (by decide)), hk.fr (by rw [f1 0 (by omega) (by omega) (by omega)]) (fun k k1 k2 => f1 k (by omega) (by omega) (by omega)) (G 4 (by decide) (by decide) (by decide) (by decide)) (G 5 (by decide) (by decide) (by decide) (by decide)) (g0 6 (by decide)) (g0 7 (by decide)), ht, fun s hs4 => (hs s hs4).fr (f1 _ (by omega) (by omega) (by omega)) (by rw [f2]) (G 8 (by decide) (by decide) (by decide) (by decide)) (G 9 (by decide) (by decide) (by decide) (by decide)) (by rw [g2])⟩
theorem zl_type {N : Nat} (a : Int32) : zl_ok zr_rel (f_X4_type N 0 a) (f_X5_type N 0 a) := by
  intro μ ν hR
  obtain ⟨_, _, _, ⟨tz, L, h1, h2, h3, h4⟩, _⟩ := id hR
  unfold f_X4_type f_X5_type
  rcases zp_in (N := N) (a := 32) (b := 126) (x := a) (by omega) (by omega) with ⟨k, k1, k2, rfl, e1, e2⟩ | ⟨e1, e2⟩
  · have e1 : ∀ μ, f_X4_within N (nI k) 32 126 μ = some (1, μ) := e1
    have e2 : ∀ μ, f_X5_in N (nI k) 32 126 μ = some (1, μ) := e2
    simp only [e1, e2, Option.bind_some, zt10, not_false_eq_true, if_true, Nat.zero_add, h2, h3]
    by_cases h : tz < 80
    · have l1 : (nI tz < 80) = True := eq_true (nI_lt (b := 80) h (by omega))
      have l2 : (nI tz = 80) = False := eq_false (fun q => by
        have := (nI_eq (b := 80) (show tz < 2 ^ 31 by omega) (by omega)).mp q
        omega)
      have l3 : ((80 : Int32) ≤ nI tz) = False := eq_false (nI_ge (b := 80) h (by omega))
      have r1 : (zk_si μ 96 tz (nI k)).1 95 1 = nI tz := by rw [zp_sk (by omega)]; exact h2
      have f1 : f_X2_write N 95 (nI k) μ = some (nI (tz + 1), zk_si (zk_si μ 96 tz (nI k)) 95 1 (nI (tz + 1))) := by
        unfold f_X2_write
        simp only [h2, l3, if_false, zp_o h (show 80 < 2 ^ 31 by omega), nI_clamp (show tz < 2 ^ 31 by omega), Bool.false_eq_true, Nat.reduceAdd, r1, nI_1]
        rw [zp_ss]
      have r2 : (zk_si ν 7 tz (nI k)).1 0 10 = nI tz := by rw [zp_sk (by omega)]; exact h3
      simp only [l1, l2, if_true, not_false_eq_true, f1, Option.bind_some, zp_o h (show 80 < 2 ^ 31 by omega), nI_clamp (show tz < 2 ^ 31 by omega), Bool.false_eq_true, if_false, zp_byt k (by omega), r2, nI_1]
      rw [zp_ss]
      refine ⟨_, _, _, rfl, rfl, zr_tp hR ⟨tz + 1, upN L tz k, by omega, zp_ss, zp_ss, fun i hi => ?_⟩ (fun q q1 q2 _ => ?_) rfl (fun q q0 q2 q6 q7 => ?_) (fun j hj => ?_) rfl⟩
      · by_cases e : i = tz
        · subst e
          rw [upN_s, zp_sk (by omega), zp_ss, zp_sk (by omega), zp_ss]
          exact ⟨rfl, rfl, k1, k2⟩
        · rw [upN_n e, zp_sk (by omega), zp_sk (by omega), zp_sk (by omega), zp_sk (by omega)]
          exact h4 i (by omega)
      · simp [zk_si, q1, q2]
      · simp [zk_si, q0, q7]
      · rw [zp_sk (by omega), zp_sk (by omega)]
    · have e7 : tz = 80 := by omega
      have l1 : (nI tz < 80) = False := eq_false (by rw [e7]; decide)
      have l2 : (nI tz = 80) = True := eq_true (by rw [e7]; rfl)
      simp only [l1, l2, if_false, not_true_eq_false]
      exact ⟨-3, μ, ν, rfl, rfl, hR⟩
  · have e1 : ∀ μ, f_X4_within N a 32 126 μ = some (0, μ) := e1
    have e2 : ∀ μ, f_X5_in N a 32 126 μ = some (0, μ) := e2
    simp only [e1, e2, Option.bind_some, not_true_eq_false, if_false]
    exact ⟨-1, μ, ν, rfl, rfl, hR⟩
