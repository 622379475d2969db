-- the past
def zdF (μ μ' : ZM) : Prop := (∀ k, (k = 0 ∨ 47 < k) → μ'.1 k = μ.1 k) ∧ μ'.2 = μ.2
def zdG (ν ν' : ZM) : Prop := (∀ k, k ≠ 0 → k ≠ 1 → k ≠ 3 → k ≠ 6 → ν'.1 k = ν.1 k) ∧ (∀ j, j ≠ 3 → ν'.1 0 j = ν.1 0 j) ∧ ν'.2 = ν.2
theorem zdF.rf {μ : ZM} : zdF μ μ := ⟨fun _ _ => rfl, rfl⟩
theorem zdG.rf {ν : ZM} : zdG ν ν := ⟨fun _ _ _ _ _ => rfl, fun _ _ => rfl, rfl⟩
theorem zdF.tr {μ μ1 μ2 : ZM} (h : zdF μ μ1) (g : zdF μ1 μ2) : zdF μ μ2 := ⟨fun k hk => (g.1 k hk).trans (h.1 k hk), g.2.trans h.2⟩
theorem zdG.tr {ν ν1 ν2 : ZM} (h : zdG ν ν1) (g : zdG ν1 ν2) : zdG ν ν2 := ⟨fun k k0 k1 k3 k6 => (g.1 k k0 k1 k3 k6).trans (h.1 k k0 k1 k3 k6), fun j hj => (g.2.1 j hj).trans (h.2.1 j hj), g.2.2.trans h.2.2⟩
def zd (T : Tw) (μ ν : ZM) : Prop := zr_now T μ ν ∧ zr_past 6 3 3 μ ν
theorem zd_end {T : Tw} {μ ν μ' ν' : ZM} (h : zr_rel μ ν) (hd : zd T μ' ν') (f : zdF μ μ') (g : zdG ν ν') : zr_rel μ' ν' :=
  zr_do h ⟨T, hd.1⟩ hd.2 (fun k k1 _ => f.1 k k1) f.2 (fun k k0 k1 _ k3 k6 => g.1 k k0 k1 k3 k6) g.2.1 g.2.2
theorem zd_deed {T T' : Tw} {μ ν μ' ν' : ZM} (h : zd T μ ν) (f : zp_Fr 1 μ μ') (g : zq_Fr 1 ν ν') (hc : CT μ' 1 T') (hr : RT ν' 1 0 T') (hT : tok T') (hy : ty T' ≤ 9999) : zd T' μ' ν' ∧ zdF μ μ' ∧ zdG ν ν' := by
  refine ⟨⟨⟨hc, hr, hT, hy⟩, h.2.fr (fun k k1 k2 => f.1 k (by omega)) (g.1 3 (by decide) (by decide)) (by rw [g.1 0 (by decide) (by decide)])⟩, ⟨fun k hk => f.1 k (by omega), f.2⟩, ⟨fun k k0 k1 k3 k6 => g.1 k k1 k6, fun j hj => by rw [g.1 0 (by decide) (by decide)], g.2⟩⟩
theorem RT.mv {ν ν' : ZM} {r r' off off' : Nat} {T : Tw} (h : RT ν r off T) (h7 : tn T ≤ 7) (e : ∀ j, j < 32 → ν'.1 r' (off' + j) = ν.1 r (off + j)) : RT ν' r' off' T := by
  obtain ⟨h1, h2, h3, h4, h5⟩ := h
  refine ⟨?_, ?_, ?_, ?_, fun i hi => ?_⟩
  · have := e 0 (by omega)
    rw [Nat.add_zero, Nat.add_zero] at this
    rw [this]; exact h1
  · rw [e 1 (by omega)]; exact h2
  · rw [e 2 (by omega)]; exact h3
  · rw [e 3 (by omega)]; exact h4
  · have q := h5 i hi
    rw [Nat.add_assoc, Nat.add_assoc, Nat.add_assoc, Nat.add_assoc] at q ⊢
    rw [e (4 + i) (by omega), e (11 + i) (by omega), e (18 + i) (by omega), e (25 + i) (by omega)]
    exact q
theorem zq_32 : ∀ s, s < 9 → (32 : Int32) * nI s = nI (32 * s) := by decide +kernel
theorem zq_know51_L {N sz : Nat} {ν : ZM} (hs : sz < 8) (h0 : ν.1 0 3 = nI sz) : ∀ (f m : Nat), 32 < m + f → m ≤ 32 → f_X5_know_L51 N f 0 (nI m) (zk_ci ν 1 3 0 (32 * sz) m) = some (zk_si (zk_ci ν 1 3 0 (32 * sz) 32) 0 3 (nI (sz + 1)))
  | 0, m, hf, hm => absurd hf (by omega)
  | f + 1, m, hf, hm => by
    unfold f_X5_know_L51
    have h0' : (zk_ci ν 1 3 0 (32 * sz) m).1 0 3 = nI sz := by rw [zc_ne (by omega)]; exact h0
    rw [h0', zq_32 sz (by omega)]
    by_cases hin : m < 32
    · rw [if_neg (show ¬ (32 : Int32) ≤ nI m from nI_ge (b := 32) hin (by omega)), nI_1, nI_add]
      simp only [zp_o hin (show 32 < 2 ^ 31 by omega), zp_o (show 32 * sz + m < 256 by omega) (show 256 < 2 ^ 31 by omega), nI_clamp (show m < 2 ^ 31 by omega), nI_clamp (show 32 * sz + m < 2 ^ 31 by omega), Bool.false_eq_true, if_false]
      rw [Nat.zero_add, Nat.zero_add, zc_ne (show (1 : Nat) ≠ 3 by decide), zc_s (μ := ν) (k0 := 1) (k1 := 3) (sp := 0) (dp := 32 * sz) (m := m) (by rw [Nat.zero_add])]
      exact zq_know51_L hs h0 f (m + 1) (by omega) (by omega)
    · have : m = 32 := by omega
      subst this
      rw [if_pos (show (32 : Int32) ≤ nI 32 by decide), nI_1]
theorem zq_know11_L {N : Nat} {ν : ZM} (h0 : ν.1 0 3 = nI 8) : ∀ (f m : Nat), 224 < m + f → m ≤ 224 → f_X5_know_L11 N f 0 (nI m) (zk_ci ν 3 3 32 0 m) = f_X5_know_L51 N N 0 0 (zk_si (zk_ci ν 3 3 32 0 224) 0 3 (nI 7))
  | 0, m, hf, hm => absurd hf (by omega)
  | f + 1, m, hf, hm => by
    conv => lhs; unfold f_X5_know_L11
    by_cases hin : m < 224
    · rw [if_neg (show ¬ (224 : Int32) ≤ nI m from nI_ge (b := 224) hin (by omega)), nI_1, show (32 : Int32) = nI 32 from rfl, nI_add]
      simp only [zp_o (show 32 + m < 256 by omega) (show 256 < 2 ^ 31 by omega), zp_o (show m < 256 by omega) (show 256 < 2 ^ 31 by omega), nI_clamp (show m < 2 ^ 31 by omega), nI_clamp (show 32 + m < 2 ^ 31 by omega), Bool.false_eq_true, if_false]
      have e : (zk_ci ν 3 3 32 0 m).1 3 (32 + m) = ν.1 3 (32 + m) := by rw [zc_rd, if_neg (by omega)]
      have e2 := zc_s (μ := ν) (k0 := 3) (k1 := 3) (sp := 32) (dp := 0) (m := m) rfl
      rw [Nat.zero_add] at e2
      rw [Nat.zero_add, e, e2]
      exact zq_know11_L h0 f (m + 1) (by omega) (by omega)
    · have : m = 224 := by omega
      subst this
      have h0' : (zk_ci ν 3 3 32 0 224).1 0 3 = nI 8 := by rw [zc_ne (by omega)]; exact h0
      rw [if_pos (show (224 : Int32) ≤ nI 224 by decide), h0', show nI 8 - 1 = nI 7 by decide]
/-- the other's known row, one more -/
theorem zq_know {N sz : Nat} {P : Nat → Tw} {T : Tw} {ν : ZM} (hN : 300 ≤ N) (hs : sz ≤ 8) (h0 : ν.1 0 3 = nI sz) (hP : ∀ i, i < sz → RT ν 3 (32 * i) (P i) ∧ tok (P i)) (hr : RT ν 1 0 T) (hT : tok T) : ∃ ν', f_X5_know N 0 ν = some ν' ∧ ν'.1 0 3 = nI (min (sz + 1) 8) ∧ (∀ i, i + 1 < min (sz + 1) 8 → RT ν' 3 (32 * i) (P (i + (sz + 1 - min (sz + 1) 8)))) ∧ RT ν' 3 (32 * (min (sz + 1) 8 - 1)) T ∧ (∀ k, k ≠ 0 → k ≠ 3 → ν'.1 k = ν.1 k) ∧ (∀ j, j ≠ 3 → ν'.1 0 j = ν.1 0 j) ∧ ν'.2 = ν.2 := by
  have h7 := hT.1
  unfold f_X5_know
  by_cases h8 : sz = 8
  · subst h8
    rw [h0, if_neg (show ¬ ¬ nI 8 = (8 : Int32) by decide)]
    have e1 := zq_know11_L (N := N) h0 N 0 (by omega) (by omega)
    rw [zc_0] at e1
    have e2 := zq_know51_L (N := N) (ν := zk_si (zk_ci ν 3 3 32 0 224) 0 3 (nI 7)) (sz := 7) (by omega) zp_ss N 0 (by omega) (by omega)
    rw [zc_0] at e2
    refine ⟨_, e1.trans e2, zp_ss, fun i (hi : i + 1 < 8) => ?_, ?_, fun k k0 k3 => ?_, fun j hj => ?_, rfl⟩
    · have hi : i < 7 := by omega
      refine (hP (i + 1) (by omega)).1.mv (hP (i + 1) (by omega)).2.1 (fun j hj => ?_)
      rw [zp_sk (by omega), zc_rd, if_neg (by omega), zp_sk (by omega), zc_rd, if_pos ⟨rfl, by omega, by omega⟩]
      exact congrArg (ν.1 3) (by omega)
    · show RT _ 3 224 T
      refine hr.mv h7 (fun j hj => ?_)
      rw [zp_sk (by omega), zc_rd, if_pos ⟨rfl, by omega, by omega⟩, zp_sk (by omega), zc_ne (by omega)]
      exact congrArg (ν.1 1) (by omega)
    · show (if k = 0 then _ else _) = _
      rw [if_neg k0, zc_ne k3]
      show (if k = 0 then _ else _) = _
      rw [if_neg k0, zc_ne k3]
    · rw [zp_sk (by omega), zc_ne (by omega), zp_sk (by omega), zc_ne (by omega)]
  · have hs8 : sz < 8 := by omega
    have em : min (sz + 1) 8 = sz + 1 := by omega
    rw [em, h0, if_pos (show ¬ nI sz = (8 : Int32) from fun q => h8 ((nI_eq (b := 8) (by omega) (by omega)).mp q))]
    have e2 := zq_know51_L (N := N) (ν := ν) (sz := sz) hs8 h0 N 0 (by omega) (by omega)
    rw [zc_0] at e2
    refine ⟨_, e2, zp_ss, fun i hi => ?_, ?_, fun k k0 k3 => ?_, fun j hj => ?_, rfl⟩
    · rw [show i + (sz + 1 - (sz + 1)) = i by omega]
      refine (hP i (by omega)).1.mv (hP i (by omega)).2.1 (fun j hj => ?_)
      rw [zp_sk (by omega), zc_rd, if_neg (by omega)]
    · show RT _ 3 (32 * sz) T
      refine hr.mv h7 (fun j hj => ?_)
      rw [zp_sk (by omega), zc_rd, if_pos ⟨rfl, by omega, by omega⟩]
      exact congrArg (ν.1 1) (by omega)
    · show (if k = 0 then _ else _) = _
      rw [if_neg k0, zc_ne k3]
    · rw [zp_sk (by omega), zc_ne (by omega)]
theorem zp_rnx : ∀ n, n < 8 → (nI n + 1) - (nI n + 1) / 8 * 8 = nI ((n + 1) % 8) := by decide +kernel
theorem zp_rsz : ∀ n, n < 9 → (if nI n + 1 < 8 then nI n + 1 else 8) = nI (min (n + 1) 8) := by decide +kernel
theorem zd_note {N : Nat} {T : Tw} {μ ν : ZM} (hN : 300 ≤ N) (h : zd T μ ν) : ∃ μ' ν', f_X0_note N 6 1 μ = some μ' ∧ f_X5_know N 0 ν = some ν' ∧ zd T μ' ν' ∧ zdF μ μ' ∧ zdG ν ν' := by
  obtain ⟨⟨hc, hr, hT, hy⟩, ⟨nx, sz, P, h1, h2, h3, h4, h5, h6⟩⟩ := h
  obtain ⟨ν', g1, g2, g3, g4, g5, g6, g7⟩ := zq_know hN h2 h5 (fun i hi => ⟨(h6 i hi).2.1, (h6 i hi).2.2.1⟩) hr hT
  obtain ⟨μ1, f1, c1, r1⟩ := zp_become (N := N) (a := 8 + 5 * nx) (b := 1) hc hT.1 (by omega)
  have e1 : μ1.1 6 1 = nI nx := by rw [r1.1 6 (by omega)]; exact h3
  have e2 : μ1.1 6 2 = nI sz := by rw [r1.1 6 (by omega)]; exact h4
  refine ⟨zk_si (zk_si μ1 6 1 (nI ((nx + 1) % 8))) 6 2 (nI (min (sz + 1) 8)), ν', ?_, g1, ⟨⟨?_, ?_, hT, hy⟩, ⟨(nx + 1) % 8, min (sz + 1) 8, fun i => if i + 1 < min (sz + 1) 8 then P (i + (sz + 1 - min (sz + 1) 8)) else T, by omega, by omega, ?_, zp_ss, g2, fun i hi => ?_⟩⟩, ⟨fun k hk => ?_, r1.2⟩, ⟨fun k k0 k1 k3 k6 => g5 k k0 k3, g6, g7⟩⟩
  · unfold f_X0_note
    rw [h3]
    simp only [zp_o h1 (show 8 < 2 ^ 31 by omega), nI_clamp (show nx < 2 ^ 31 by omega), Bool.false_eq_true, if_false, Nat.reduceAdd, f1, Option.bind_some, e1, zp_rnx nx h1]
    rw [zp_sk (by omega), e2, zp_rsz sz (by omega)]
  · refine hc.fr' (fun k k1 k2 => ?_)
    rw [← r1.1 k (by omega)]
    simp [zk_si, show k ≠ 6 by omega]
  · exact hr.fr (g5 1 (by decide) (by decide))
  · rw [zp_sk (by omega), zp_ss]
  · by_cases hl : i + 1 < min (sz + 1) 8
    · simp only [hl, if_true]
      have hi2 : i + (sz + 1 - min (sz + 1) 8) < sz := by omega
      obtain ⟨q1, q2, q3, q4⟩ := h6 _ hi2
      refine ⟨?_, g3 i hl, q3, q4⟩
      have es : zr_slot ((nx + 1) % 8) (min (sz + 1) 8) i = zr_slot nx sz (i + (sz + 1 - min (sz + 1) 8)) := by
        unfold zr_slot; omega
      have ne : zr_slot nx sz (i + (sz + 1 - min (sz + 1) 8)) ≠ nx := by
        unfold zr_slot; omega
      rw [es]
      generalize zr_slot nx sz (i + (sz + 1 - min (sz + 1) 8)) = w at q1 ne
      refine q1.fr' (fun k k1 k2 => ?_)
      rw [← r1.1 k (by omega)]
      simp [zk_si, show k ≠ 6 by omega]
    · simp only [hl, if_false]
      have ei : i = min (sz + 1) 8 - 1 := by omega
      have es : zr_slot ((nx + 1) % 8) (min (sz + 1) 8) i = nx := by
        unfold zr_slot; omega
      rw [es]
      refine ⟨?_, by rw [ei]; exact g4, hT, hy⟩
      refine c1.fr' (fun k k1 k2 => ?_)
      simp [zk_si, show k ≠ 6 by omega]
  · rw [← r1.1 k (by omega)]
    simp [zk_si, show k ≠ 6 by omega]
