-- images
theorem zp_bec {N a b : Nat} {μ : ZM} (hd : a + 4 < b ∨ b + 4 < a) : ∃ μ', f_X3_become N a b μ = some μ' ∧ (∀ T, tn T ≤ 7 → CT μ b T → CT μ' a T) ∧ zp_Fr a μ μ' := by
  have fr : ∀ μ1, f_X3_become N a b μ = some μ1 → zp_Fr a μ μ1 := by
    intro μ1 h
    unfold f_X3_become at h
    simp only [Option.some.injEq] at h
    rw [← h]
    exact (((zp_Fr.ci (by omega) (by omega)).tr (zp_Fr.ci (by omega) (by omega))).tr ((zp_Fr.ci (by omega) (by omega)).tr (zp_Fr.ci (by omega) (by omega)))).tr (((zp_Fr.si (by omega) (by omega)).tr (zp_Fr.si (by omega) (by omega))).tr ((zp_Fr.si (by omega) (by omega)).tr (zp_Fr.si (by omega) (by omega))))
  obtain ⟨μ1, e1⟩ : ∃ μ1, f_X3_become N a b μ = some μ1 := ⟨_, rfl⟩
  refine ⟨μ1, e1, fun T h7 h => ?_, fr μ1 e1⟩
  obtain ⟨μ2, e2, c2, _⟩ := zp_become (N := N) (a := a) h h7 hd
  rw [e1] at e2
  rw [Option.some.inj e2]
  exact c2
theorem zp_pb_L {N a b : Nat} (hd : a + 41 < b ∨ b + 41 < a) : ∀ (f m : Nat) (μ : ZM), 8 < m + f → m ≤ 8 → ∃ μ', f_X0_become_L2 N f a b (nI m) μ = some μ' ∧ (∀ w, m ≤ w → w < 8 → ∀ T, tn T ≤ 7 → CT μ (b + 2 + 5 * w) T → CT μ' (a + 2 + 5 * w) T) ∧ (∀ w, w < m → ∀ T, CT μ (a + 2 + 5 * w) T → CT μ' (a + 2 + 5 * w) T) ∧ μ'.1 a 1 = μ.1 b 1 ∧ μ'.1 a 2 = μ.1 b 2 ∧ (∀ k, (k < a ∨ a + 41 < k) → μ'.1 k = μ.1 k) ∧ μ'.2 = μ.2
  | 0, m, μ, hf, hm => absurd hf (by omega)
  | f + 1, m, μ, hf, hm => by
    unfold f_X0_become_L2
    by_cases hin : m < 8
    · have l1 : ((8 : Int32) ≤ nI m) = False := eq_false (nI_ge (b := 8) hin (by omega))
      simp only [l1, if_false, zp_o hin (show 8 < 2 ^ 31 by omega), nI_clamp (show m < 2 ^ 31 by omega), Bool.false_eq_true, nI_1]
      obtain ⟨μ1, e1, c1, r1⟩ := zp_bec (N := N) (a := a + 1 + 1 + 5 * m) (b := b + 1 + 1 + 5 * m) (μ := μ) (by omega)
      rw [e1]
      simp only [Option.bind_some]
      obtain ⟨μ2, a1, a2, a3, a4, a5, a6, a7⟩ := zp_pb_L (N := N) hd f (m + 1) μ1 (by omega) (by omega)
      refine ⟨μ2, a1, fun w w1 w2 T h7 h => ?_, fun w w1 T h => ?_, ?_, ?_, fun k hk => ?_, a7.trans r1.2⟩
      · by_cases e : w = m
        · subst e
          exact a3 w (by omega) T (c1 T h7 h)
        · exact a2 w (by omega) w2 T h7 (h.fr r1 (by omega))
      · exact a3 w (by omega) T (h.fr r1 (by omega))
      · rw [a4, r1.1 b (by omega)]
      · rw [a5, r1.1 b (by omega)]
      · rw [a6 k hk, r1.1 k (by omega)]
    · have l1 : ((8 : Int32) ≤ nI m) = True := eq_true (nI_le (a := 8) (by omega) (by omega))
      simp only [l1, if_true]
      refine ⟨_, rfl, fun w w1 w2 => absurd w1 (by omega), fun w w1 T h => ?_, ?_, ?_, fun k hk => ?_, rfl⟩
      · refine h.fr' (fun k k1 k2 => ?_)
        simp [zk_si, show k ≠ a by omega]
      · rw [zp_sk (by omega), zp_ss]
      · rw [zp_ss, zp_sk (by omega)]
      · simp [zk_si, show k ≠ a by omega]
theorem zp_pb {N a b : Nat} (hN : 300 ≤ N) (hd : a + 41 < b ∨ b + 41 < a) (μ : ZM) : ∃ μ', f_X0_become N a b μ = some μ' ∧ (∀ w, w < 8 → ∀ T, tn T ≤ 7 → CT μ (b + 2 + 5 * w) T → CT μ' (a + 2 + 5 * w) T) ∧ μ'.1 a 1 = μ.1 b 1 ∧ μ'.1 a 2 = μ.1 b 2 ∧ (∀ k, (k < a ∨ a + 41 < k) → μ'.1 k = μ.1 k) ∧ μ'.2 = μ.2 := by
  obtain ⟨μ2, a1, a2, a3, a4, a5, a6, a7⟩ := zp_pb_L (N := N) hd N 0 μ (by omega) (by omega)
  exact ⟨μ2, a1, fun w w2 => a2 w (by omega) w2, a4, a5, a6, a7⟩
theorem zr_pcp {p r s p' r' s' : Nat} {μ ν μ' ν' : ZM} (h : zr_past p r s μ ν) (c : ∀ w, w < 8 → ∀ T, tn T ≤ 7 → CT μ (p + 2 + 5 * w) T → CT μ' (p' + 2 + 5 * w) T) (c1 : μ'.1 p' 1 = μ.1 p 1) (c2 : μ'.1 p' 2 = μ.1 p 2) (e : ∀ j, j < 256 → ν'.1 r' j = ν.1 r j) (e0 : ν'.1 0 s' = ν.1 0 s) : zr_past p' r' s' μ' ν' := by
  obtain ⟨nx, sz, P, h1, h2, h3, h4, h5, h6⟩ := h
  refine ⟨nx, sz, P, h1, h2, c1.trans h3, c2.trans h4, e0.trans h5, fun i hi => ?_⟩
  obtain ⟨q1, q2, q3, q4⟩ := h6 i hi
  exact ⟨c _ (zr_slot_lt nx sz i) _ q3.1 q1, q2.mv q3.1 (fun j hj => e _ (by omega)), q3, q4⟩
theorem zq_img2_L {N : Nat} {ν : ZM} : ∀ (f m : Nat), 256 < m + f → m ≤ 256 → f_X5_image_L28 N f 0 (nI m) (zk_ci ν 3 5 0 0 m) = some (1, zk_si (zk_si (zk_ci ν 3 5 0 0 256) 0 6 (ν.1 0 3)) 0 7 1)
  | 0, m, hf, hm => absurd hf (by omega)
  | f + 1, m, hf, hm => by
    unfold f_X5_image_L28
    by_cases hin : m < 256
    · rw [if_neg (show ¬ (256 : Int32) ≤ nI m from nI_ge (b := 256) hin (by omega)), nI_1]
      simp only [zp_o hin (show 256 < 2 ^ 31 by omega), nI_clamp (show m < 2 ^ 31 by omega), Bool.false_eq_true, if_false]
      have e := zc_s (μ := ν) (k0 := 3) (k1 := 5) (sp := 0) (dp := 0) (m := m) rfl
      rw [Nat.zero_add] at e
      rw [Nat.zero_add, Nat.zero_add, zc_ne (show (3 : Nat) ≠ 5 by decide), e]
      exact zq_img2_L f (m + 1) (by omega) (by omega)
    · have : m = 256 := by omega
      subst this
      rw [if_pos (show (256 : Int32) ≤ nI 256 by decide)]
      simp only
      rw [zc_ne (show (0 : Nat) ≠ 5 by decide)]
theorem zq_img1_L {N : Nat} {ν : ZM} : ∀ (f m : Nat), 32 < m + f → m ≤ 32 → f_X5_image_L2 N f 0 (nI m) (zk_ci ν 1 4 0 0 m) = f_X5_image_L28 N N 0 0 (zk_ci ν 1 4 0 0 32)
  | 0, m, hf, hm => absurd hf (by omega)
  | f + 1, m, hf, hm => by
    conv => lhs; unfold f_X5_image_L2
    by_cases hin : m < 32
    · rw [if_neg (show ¬ (32 : Int32) ≤ nI m from nI_ge (b := 32) hin (by omega)), nI_1]
      simp only [zp_o hin (show 32 < 2 ^ 31 by omega), nI_clamp (show m < 2 ^ 31 by omega), Bool.false_eq_true, if_false]
      have e := zc_s (μ := ν) (k0 := 1) (k1 := 4) (sp := 0) (dp := 0) (m := m) rfl
      rw [Nat.zero_add] at e
      rw [Nat.zero_add, Nat.zero_add, zc_ne (show (1 : Nat) ≠ 4 by decide), e]
      exact zq_img1_L f (m + 1) (by omega) (by omega)
    · have : m = 32 := by omega
      subst this
      rw [if_pos (show (32 : Int32) ≤ nI 32 by decide)]
theorem zl_image {N : Nat} (hN : 300 ≤ N) : zl_ok zr_rel (f_X4_image N 0) (f_X5_image N 0) := by
  intro μ ν hR
  obtain ⟨⟨T, hc, hr, hT, hy⟩, hp, hk, ht, hs⟩ := id hR
  obtain ⟨μ1, f1, c1, r1⟩ := zp_become (N := N) (a := 48) (b := 1) hc hT.1 (by omega)
  obtain ⟨μ2, f2, d1, d2, d3, d4, d5⟩ := zp_pb (a := 53) (b := 6) hN (by omega) μ1
  have g1 := zq_img1_L (N := N) (ν := ν) N 0 (by omega) (by omega)
  have g2 := zq_img2_L (N := N) (ν := zk_ci ν 1 4 0 0 32) N 0 (by omega) (by omega)
  rw [zc_0] at g1 g2
  have G : f_X5_image N 0 ν = _ := g1.trans g2
  rw [zc_ne (show (0 : Nat) ≠ 4 by decide)] at G
  have F : f_X4_image N 0 μ = some (1, zk_si μ2 0 7 1) := by
    unfold f_X4_image
    simp only [Nat.zero_add, f1, f2, Option.bind_some]
  have M : ∀ k, k ≠ 0 → (k < 48 ∨ 94 < k) → (zk_si μ2 0 7 1).1 k = μ.1 k := fun k k0 hk => by
    have e : (zk_si μ2 0 7 1).1 k = μ2.1 k := by simp [zk_si, k0]
    rw [e, d4 k (by omega), r1.1 k (by omega)]
  have M2 : (zk_si μ2 0 7 1).2 = μ.2 := d5.trans r1.2
  refine ⟨1, _, _, F, G, ?_⟩
  generalize hν : zk_si (zk_si (zk_ci (zk_ci ν 1 4 0 0 32) 3 5 0 0 256) 0 6 (ν.1 0 3)) 0 7 1 = ν'
  have K : ∀ k, k ≠ 0 → k ≠ 4 → k ≠ 5 → ν'.1 k = ν.1 k := fun k k0 k4 k5 => by
    rw [← hν]
    have e : (zk_si (zk_si (zk_ci (zk_ci ν 1 4 0 0 32) 3 5 0 0 256) 0 6 (ν.1 0 3)) 0 7 1).1 k = (zk_ci (zk_ci ν 1 4 0 0 32) 3 5 0 0 256).1 k := by simp [zk_si, k0]
    rw [e, zc_ne k5, zc_ne k4]
  have K0 : ∀ j, j ≠ 6 → j ≠ 7 → ν'.1 0 j = ν.1 0 j := fun j j6 j7 => by
    rw [← hν, zp_sk (by omega), zp_sk (by omega), zc_ne (by decide), zc_ne (by decide)]
  have K2 : ν'.2 = ν.2 := by rw [← hν]; rfl
  have K6 : ν'.1 0 6 = ν.1 0 3 := by rw [← hν, zp_sk (by omega), zp_ss]
  have K7 : ν'.1 0 7 = 1 := by rw [← hν, zp_ss]
  have K4 : ∀ j, j < 32 → ν'.1 4 (0 + j) = ν.1 1 (0 + j) := fun j hj => by
    rw [← hν, zp_sk (by omega), zp_sk (by omega), zc_ne (by decide), zc_in hj]
  have K5 : ∀ j, j < 256 → ν'.1 5 j = ν.1 3 j := fun j hj => by
    rw [← hν, zp_sk (by omega), zp_sk (by omega), zc_rd, if_pos ⟨rfl, by omega, by omega⟩, zc_ne (by decide)]
    exact congrArg (ν.1 3) (by omega)
  have hp1 : zr_past 6 3 3 μ1 ν := hp.fr (fun k k1 k2 => r1.1 k (by omega)) rfl rfl
  refine ⟨⟨T, hc.fr' (fun k k1 k2 => M k (by omega) (by omega)), hr.fr (K 1 (by omega) (by omega) (by omega)), hT, hy⟩, hp.fr (fun k k1 k2 => M k (by omega) (by omega)) (K 3 (by omega) (by omega) (by omega)) (K0 3 (by omega) (by omega)), Or.inr ⟨zp_ss, K7, ⟨T, ?_, hr.mv hT.1 K4, hT, hy⟩, ?_⟩, ht.fr (by rw [M 95 (by omega) (by omega)]) (M 96 (by omega) (by omega)) (K0 10 (by omega) (by omega)) (K 7 (by omega) (by omega) (by omega)), fun s hs4 => (hs s hs4).fr (M _ (by omega) (by omega)) (by rw [M2]) (K 8 (by omega) (by omega) (by omega)) (K 9 (by omega) (by omega) (by omega)) (by rw [K2])⟩
  · refine c1.fr' (fun k k1 k2 => ?_)
    have e : (zk_si μ2 0 7 1).1 k = μ2.1 k := by simp [zk_si, show k ≠ 0 by omega]
    rw [e, d4 k (by omega)]
  · refine zr_pcp hp1 (fun w w8 U h7 h => ?_) ?_ ?_ K5 K6
    · refine (d1 w w8 U h7 h).fr' (fun k k1 k2 => ?_)
      simp [zk_si, show k ≠ 0 by omega]
    · rw [zp_sk (by omega)]; exact d2
    · rw [zp_sk (by omega)]; exact d3
theorem zq_res2_L {N : Nat} {ν : ZM} : ∀ (f m : Nat), 256 < m + f → m ≤ 256 → f_X5_restore_L38 N f 0 (nI m) (zk_ci ν 5 3 0 0 m) = some (1, zk_si (zk_ci ν 5 3 0 0 256) 0 3 (ν.1 0 6))
  | 0, m, hf, hm => absurd hf (by omega)
  | f + 1, m, hf, hm => by
    unfold f_X5_restore_L38
    by_cases hin : m < 256
    · rw [if_neg (show ¬ (256 : Int32) ≤ nI m from nI_ge (b := 256) hin (by omega)), nI_1]
      simp only [zp_o hin (show 256 < 2 ^ 31 by omega), nI_clamp (show m < 2 ^ 31 by omega), Bool.false_eq_true, if_false]
      have e := zc_s (μ := ν) (k0 := 5) (k1 := 3) (sp := 0) (dp := 0) (m := m) rfl
      rw [Nat.zero_add] at e
      rw [Nat.zero_add, Nat.zero_add, zc_ne (show (5 : Nat) ≠ 3 by decide), e]
      exact zq_res2_L f (m + 1) (by omega) (by omega)
    · have : m = 256 := by omega
      subst this
      rw [if_pos (show (256 : Int32) ≤ nI 256 by decide)]
      simp only
      rw [zc_ne (show (0 : Nat) ≠ 3 by decide)]
theorem zq_res1_L {N : Nat} {ν : ZM} : ∀ (f m : Nat), 32 < m + f → m ≤ 32 → f_X5_restore_L12 N f 0 (nI m) (zk_ci ν 4 1 0 0 m) = f_X5_restore_L38 N N 0 0 (zk_ci ν 4 1 0 0 32)
  | 0, m, hf, hm => absurd hf (by omega)
  | f + 1, m, hf, hm => by
    conv => lhs; unfold f_X5_restore_L12
    by_cases hin : m < 32
    · rw [if_neg (show ¬ (32 : Int32) ≤ nI m from nI_ge (b := 32) hin (by omega)), nI_1]
      simp only [zp_o hin (show 32 < 2 ^ 31 by omega), nI_clamp (show m < 2 ^ 31 by omega), Bool.false_eq_true, if_false]
      have e := zc_s (μ := ν) (k0 := 4) (k1 := 1) (sp := 0) (dp := 0) (m := m) rfl
      rw [Nat.zero_add] at e
      rw [Nat.zero_add, Nat.zero_add, zc_ne (show (4 : Nat) ≠ 1 by decide), e]
      exact zq_res1_L f (m + 1) (by omega) (by omega)
    · have : m = 32 := by omega
      subst this
      rw [if_pos (show (32 : Int32) ≤ nI 32 by decide)]
theorem zl_restore {N : Nat} (hN : 300 ≤ N) : zl_ok zr_rel (f_X4_restore N 0) (f_X5_restore N 0) := by
  intro μ ν hR
  obtain ⟨_, _, hk, _, _⟩ := id hR
  unfold f_X4_restore f_X5_restore
  rcases hk with ⟨h1, h2⟩ | ⟨h1, h2, ⟨T, hc, hr, hT, hy⟩, hp⟩
  · simp only [h1, h2, not_true_eq_false, if_false]
    exact ⟨-4, μ, ν, rfl, rfl, hR⟩
  · obtain ⟨μ1, f1, c1, r1⟩ := zp_become (N := N) (a := 1) (b := 48) hc hT.1 (by omega)
    obtain ⟨μ2, f2, d1, d2, d3, d4, d5⟩ := zp_pb (a := 6) (b := 53) hN (by omega) μ1
    have g1 := zq_res1_L (N := N) (ν := ν) N 0 (by omega) (by omega)
    have g2 := zq_res2_L (N := N) (ν := zk_ci ν 4 1 0 0 32) N 0 (by omega) (by omega)
    rw [zc_0] at g1 g2
    have G : f_X5_restore_L12 N N 0 0 ν = _ := g1.trans g2
    rw [zc_ne (show (0 : Nat) ≠ 1 by decide)] at G
    simp only [h1, h2, zt10, not_false_eq_true, if_true, Nat.zero_add, f1, f2, Option.bind_some, G]
    refine ⟨1, _, _, rfl, rfl, ?_⟩
    have hp1 : zr_past 53 5 6 μ1 ν := hp.fr (fun k k1 k2 => r1.1 k (by omega)) rfl rfl
    refine zr_do hR ⟨T, c1.fr' (fun k k1 k2 => d4 k (by omega)), hr.mv hT.1 (fun j hj => ?_), hT, hy⟩ (zr_pcp hp1 d1 d2 d3 (fun j hj => ?_) zp_ss) (fun k k1 _ => by rw [d4 k (by omega), r1.1 k (by omega)]) (d5.trans r1.2) (fun k k0 k1 _ k3 k6 => ?_) (fun j hj => ?_) rfl
    · rw [zp_sk (by omega), zc_ne (by decide), zc_in hj]
    · rw [zp_sk (by omega), zc_rd, if_pos ⟨rfl, by omega, by omega⟩, zc_ne (by decide)]
      exact congrArg (ν.1 5) (by omega)
    · have e : (zk_si (zk_ci (zk_ci ν 4 1 0 0 32) 5 3 0 0 256) 0 3 (ν.1 0 6)).1 k = (zk_ci (zk_ci ν 4 1 0 0 32) 5 3 0 0 256).1 k := by simp [zk_si, k0]
      rw [e, zc_ne k3, zc_ne k1]
    · rw [zp_sk (by omega), zc_ne (by decide), zc_ne (by decide)]
