-- undo
theorem zq_undo_L {N s : Nat} {ν : ZM} (hs : s < 8) (h0 : ν.1 0 3 = nI s) : ∀ (f m : Nat), 32 < m + f → m ≤ 32 → f_X5_undo_L22 N f 0 (nI m) (zk_ci ν 3 1 (32 * s) 0 m) = some (nI s, zk_ci ν 3 1 (32 * s) 0 32)
  | 0, m, hf, hm => absurd hf (by omega)
  | f + 1, m, hf, hm => by
    unfold f_X5_undo_L22
    have h0' : (zk_ci ν 3 1 (32 * s) 0 m).1 0 3 = nI s := by rw [zc_ne (by omega)]; exact h0
    rw [h0', zq_32 s (by omega)]
    by_cases hin : m < 32
    · rw [if_neg (show ¬ (32 : Int32) ≤ nI m from nI_ge (b := 32) hin (by omega)), nI_1, nI_add]
      simp only [zp_o hin (show 32 < 2 ^ 31 by omega), zp_o (show 32 * s + m < 256 by omega) (show 256 < 2 ^ 31 by omega), nI_clamp (show m < 2 ^ 31 by omega), nI_clamp (show 32 * s + m < 2 ^ 31 by omega), Bool.false_eq_true, if_false]
      have e2 := zc_s (μ := ν) (k0 := 3) (k1 := 1) (sp := 32 * s) (dp := 0) (m := m) rfl
      rw [Nat.zero_add] at e2
      rw [Nat.zero_add, Nat.zero_add, zc_ne (show (3 : Nat) ≠ 1 by decide), e2]
      exact zq_undo_L hs h0 f (m + 1) (by omega) (by omega)
    · have : m = 32 := by omega
      subst this
      rw [if_pos (show (32 : Int32) ≤ nI 32 by decide)]
theorem zp_unx : ∀ n, n < 8 → ((nI n + 8) - 1) - ((nI n + 8) - 1) / 8 * 8 = nI ((n + 7) % 8) := by decide +kernel
theorem zp_usz : ∀ n, n < 8 → nI (n + 1) - 1 = nI n := by decide +kernel
theorem zl_undo {N : Nat} (hN : 300 ≤ N) : zl_ok zr_rel (f_X4_undo N 0) (f_X5_undo N 0) := by
  intro μ ν hR
  obtain ⟨⟨T, hn⟩, ⟨nx, sz, P, h1, h2, h3, h4, h5, h6⟩, _⟩ := id hR
  obtain ⟨hc, hr, hT, hy⟩ := id hn
  unfold f_X4_undo f_X5_undo
  simp only [Nat.zero_add, h4, h5]
  by_cases h0 : sz = 0
  · subst h0
    have l1 : ((0 : Int32) < nI 0) = False := eq_false (by decide)
    simp only [l1, if_false, nI_0, not_true_eq_false]
    exact ⟨-4, μ, ν, rfl, rfl, hR⟩
  · obtain ⟨s, rfl⟩ : ∃ s, sz = s + 1 := ⟨sz - 1, by omega⟩
    have l1 : ((0 : Int32) < nI (s + 1)) = True := eq_true (nI_lt (a := 0) (by omega) (by omega))
    have l2 : (nI (s + 1) = 0) = False := eq_false (fun q => by
      have := (nI_eq (b := 0) (show s + 1 < 2 ^ 31 by omega) (by omega)).mp q
      omega)
    have s8 : s < 8 := by omega
    obtain ⟨q1, q2, q3, q4⟩ := h6 s (by omega)
    have es : zr_slot nx (s + 1) s = (nx + 7) % 8 := by unfold zr_slot; omega
    rw [es] at q1
    have hw : (nx + 7) % 8 < 8 := Nat.mod_lt _ (by decide)
    have q1' : CT (zk_si (zk_si μ 6 1 (nI ((nx + 7) % 8))) 6 2 (nI s)) (8 + 5 * ((nx + 7) % 8)) (P s) := q1.fr' (fun k k1 k2 => by simp [zk_si, show k ≠ 6 by omega])
    obtain ⟨μ1, f1, c1, r1⟩ := zp_become (N := N) (a := 1) (b := 8 + 5 * ((nx + 7) % 8)) q1' q3.1 (by omega)
    have g1 := zq_undo_L (N := N) (s := s) (ν := zk_si ν 0 3 (nI s)) s8 zp_ss N 0 (by omega) (by omega)
    rw [zc_0] at g1
    have g1 : f_X5_undo_L22 N N 0 0 (zk_si ν 0 3 (nI s)) = _ := g1
    simp only [l1, l2, if_true, not_false_eq_true, zp_usz s s8, g1]
    have e6 : μ1.1 6 = (zk_si (zk_si μ 6 1 (nI ((nx + 7) % 8))) 6 2 (nI s)).1 6 := r1.1 6 (by omega)
    have f0 : f_X0_giveBack N 6 1 μ = some μ1 := by
      unfold f_X0_giveBack
      simp only [h3, zp_unx nx h1]
      rw [zp_sk (by omega), zp_ss, zp_sk (by omega), h4, zp_usz s s8]
      simp only [zp_o hw (show 8 < 2 ^ 31 by omega), nI_clamp (show (nx + 7) % 8 < 2 ^ 31 by omega), Bool.false_eq_true, if_false, Nat.reduceAdd, f1, Option.bind_some]
    have e62 : μ1.1 6 2 = nI s := by rw [e6, zp_ss]
    have e61 : μ1.1 6 1 = nI ((nx + 7) % 8) := by rw [e6, zp_sk (by omega), zp_ss]
    simp only [f0, Option.bind_some, e62]
    refine ⟨nI s, μ1, _, rfl, rfl, zd_end (T := P s) hR ⟨⟨c1, ?_, q3, q4⟩, ⟨(nx + 7) % 8, s, P, hw, by omega, e61, e62, ?_, fun i hi => ?_⟩⟩ ⟨fun k hk => ?_, r1.2⟩ ⟨fun k k0 k1 k3 k6 => ?_, fun j hj => ?_, rfl⟩⟩
    · refine q2.mv q3.1 (fun j hj => ?_)
      rw [zc_in (by omega), zp_sk (by omega)]
    · rw [zc_ne (by omega), zp_ss]
    · obtain ⟨u1, u2, u3, u4⟩ := h6 i (by omega)
      have es : zr_slot ((nx + 7) % 8) s i = zr_slot nx (s + 1) i := by unfold zr_slot; omega
      rw [es]
      have hz := zr_slot_lt nx (s + 1) i
      refine ⟨u1.fr' (fun k k1 k2 => ?_), u2.fr ?_, u3, u4⟩
      · rw [r1.1 k (by omega)]
        simp [zk_si, show k ≠ 6 by omega]
      · rw [zc_ne (by omega)]
        simp [zk_si]
    · rw [r1.1 k (by omega)]
      simp [zk_si, show k ≠ 6 by omega]
    · rw [zc_ne k1]
      simp [zk_si, k0]
    · rw [zc_ne (by omega), zp_sk (by omega)]
