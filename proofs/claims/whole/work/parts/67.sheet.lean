-- sheets
theorem zj_si (μ : ZM) (k j : Nat) (v : Int64) (q i : Nat) : (zk_sj μ k j v).2 q i = if q = k ∧ i = j then v else μ.2 q i := by
  unfold zk_sj vp_updL
  by_cases e : q = k
  · subst e
    by_cases e2 : i = j
    · subst e2; simp
    · simp [e2]
  · simp [e]
theorem zj_sk {μ : ZM} {k j : Nat} {v : Int64} {q i : Nat} (h : q ≠ k ∨ i ≠ j) : (zk_sj μ k j v).2 q i = μ.2 q i := by
  rw [zj_si, if_neg (by omega)]
theorem zj_ss {μ : ZM} {k j : Nat} {v : Int64} : (zk_sj μ k j v).2 k j = v := by rw [zj_si, if_pos ⟨rfl, rfl⟩]
/-- a row of longs, from a on n of them 0 -/
def zk_z (μ : ZM) (k a n : Nat) : ZM := (μ.1, fun q j => if q = k ∧ a ≤ j ∧ j < a + n then 0 else μ.2 q j)
theorem zz_0 (μ : ZM) (k a : Nat) : zk_z μ k a 0 = μ := by
  refine Prod.ext rfl ?_
  funext q j
  show (if q = k ∧ a ≤ j ∧ j < a + 0 then 0 else μ.2 q j) = _
  rw [if_neg (by omega)]
theorem zz_s (μ : ZM) (k a m : Nat) : zk_sj (zk_z μ k a m) k (a + m) 0 = zk_z μ k a (m + 1) := by
  refine Prod.ext rfl ?_
  funext q j
  rw [zj_si]
  show (if q = k ∧ j = a + m then 0 else if q = k ∧ a ≤ j ∧ j < a + m then 0 else μ.2 q j) = (if q = k ∧ a ≤ j ∧ j < a + (m + 1) then 0 else μ.2 q j)
  by_cases e : q = k
  · by_cases e3 : j = a + m
    · rw [if_pos ⟨e, e3⟩, if_pos ⟨e, by omega, by omega⟩]
    · rw [if_neg (fun q => e3 q.2)]
      by_cases e2 : a ≤ j ∧ j < a + m
      · rw [if_pos ⟨e, e2⟩, if_pos ⟨e, by omega, by omega⟩]
      · rw [if_neg (fun q => e2 q.2), if_neg (fun q => e2 ⟨q.2.1, by omega⟩)]
  · rw [if_neg (fun q => e q.1), if_neg (fun q => e q.1), if_neg (fun q => e q.1)]
theorem zp_renew_L {N k : Nat} {x1 x2 : Int32} {μ : ZM} : ∀ (f m : Nat), 24 < m + f → m ≤ 24 → f_X1_renew_L2 N f k x1 x2 (nI m) (zk_z μ (k + 1) 0 m) = some (zk_si (zk_si (zk_z μ (k + 1) 0 24) k 1 x1) k 2 x2)
  | 0, m, hf, hm => absurd hf (by omega)
  | f + 1, m, hf, hm => by
    unfold f_X1_renew_L2
    by_cases hin : m < 24
    · rw [if_neg (show ¬ (24 : Int32) ≤ nI m from nI_ge (b := 24) hin (by omega)), nI_1]
      simp only [zp_o hin (show 24 < 2 ^ 31 by omega), nI_clamp (show m < 2 ^ 31 by omega), Bool.false_eq_true, if_false]
      have e := zz_s μ (k + 1) 0 m
      rw [Nat.zero_add] at e
      rw [e]
      exact zp_renew_L f (m + 1) (by omega) (by omega)
    · have : m = 24 := by omega
      subst this
      rw [if_pos (show (24 : Int32) ≤ nI 24 by decide)]
theorem zq_24 : ∀ s, s < 4 → (24 : Int32) * nI s = nI (24 * s) := by decide +kernel
theorem zq_renew_L {N s : Nat} {x : Int32} {ν : ZM} (hs : s < 4) : ∀ (f m : Nat), 24 < m + f → m ≤ 24 → f_X5_sheet_L50 N f 0 (nI s) x (nI m) (zk_z ν 10 (24 * s) m) = some (x, zk_z ν 10 (24 * s) 24)
  | 0, m, hf, hm => absurd hf (by omega)
  | f + 1, m, hf, hm => by
    unfold f_X5_sheet_L50
    by_cases hin : m < 24
    · rw [if_neg (show ¬ (24 : Int32) ≤ nI m from nI_ge (b := 24) hin (by omega)), nI_1, zq_24 s hs, nI_add]
      simp only [zp_o (show 24 * s + m < 96 by omega) (show 96 < 2 ^ 31 by omega), nI_clamp (show 24 * s + m < 2 ^ 31 by omega), Bool.false_eq_true, if_false, Nat.zero_add]
      rw [zz_s]
      exact zq_renew_L hs f (m + 1) (by omega) (by omega)
    · have : m = 24 := by omega
      subst this
      rw [if_pos (show (24 : Int32) ≤ nI 24 by decide)]
/-- one of four -/
theorem zp_four {N : Nat} (x : Int32) : (∃ s : Nat, s < 4 ∧ x = nI s ∧ (∀ μ, f_X4_isSheet N x μ = some (1, μ)) ∧ (∀ μ, f_X4_isLane N x μ = some (1, μ)) ∧ (∀ ν, f_X5_isSheet N x ν = some (1, ν)) ∧ (∀ ν, f_X5_in N x 0 3 ν = some (1, ν))) ∨ ((∀ μ, f_X4_isSheet N x μ = some (0, μ)) ∧ (∀ μ, f_X4_isLane N x μ = some (0, μ)) ∧ (∀ ν, f_X5_isSheet N x ν = some (0, ν)) ∧ (∀ ν, f_X5_in N x 0 3 ν = some (0, ν))) := by
  have sh : ∀ b : Int32, (b = 0 ∨ b = 1) → (∀ ν, f_X5_in N x 0 3 ν = some (b, ν)) → ∀ ν, f_X5_isSheet N x ν = some (b, ν) := by
    intro b hb h ν
    unfold f_X5_isSheet
    rw [h]
    show zk_zr b ν = _
    unfold zk_zr
    rw [if_pos hb]
  rcases zp_in (N := N) (a := 0) (b := 3) (x := x) (by omega) (by omega) with ⟨k, k1, k2, rfl, e1, e2⟩ | ⟨e1, e2⟩
  · have e2 : ∀ ν, f_X5_in N (nI k) 0 3 ν = some (1, ν) := e2
    refine Or.inl ⟨k, by omega, rfl, fun μ => ?_, fun μ => ?_, sh 1 (Or.inr rfl) e2, e2⟩
    · unfold f_X4_isSheet
      rw [if_neg (nI_pos (by omega)), if_neg (show ¬ (4 : Int32) ≤ nI k from nI_ge (b := 4) (by omega) (by omega))]; rfl
    · unfold f_X4_isLane
      rw [if_neg (nI_pos (by omega)), if_neg (show ¬ (4 : Int32) ≤ nI k from nI_ge (b := 4) (by omega) (by omega))]; rfl
  · have e2 : ∀ ν, f_X5_in N x 0 3 ν = some (0, ν) := e2
    have hx : x < 0 ∨ (4 : Int32) ≤ x := by
      rcases zp_num x with h | ⟨k, hk, rfl⟩
      · exact Or.inl h
      · by_cases h4 : 4 ≤ k
        · exact Or.inr (nI_le (a := 4) h4 hk)
        · exfalso
          have h := e2 (fun _ _ => 0, fun _ _ => 0)
          unfold f_X5_in at h
          rw [if_neg (nI_pos hk), if_neg (show ¬ (3 : Int32) < nI k from nI_nlt (a := 3) (by omega) (by omega))] at h
          have h := (Prod.mk.inj (Option.some.inj h)).1
          exact absurd h (by decide)
    refine Or.inr ⟨fun μ => ?_, fun μ => ?_, sh 0 (Or.inl rfl) e2, e2⟩
    · unfold f_X4_isSheet
      rcases hx with hx | hx
      · rw [if_pos hx]; rfl
      · by_cases h0 : x < 0
        · rw [if_pos h0]; rfl
        · rw [if_neg h0, if_pos hx]; rfl
    · unfold f_X4_isLane
      rcases hx with hx | hx
      · rw [if_pos hx]; rfl
      · by_cases h0 : x < 0
        · rw [if_pos h0]; rfl
        · rw [if_neg h0, if_pos hx]; rfl
/-- nothing but the sheets, and the trial, have changed -/
theorem zr_sh {μ ν μ' ν' : ZM} (h : zr_rel μ ν) (hs : ∀ s, s < 4 → zr_sheet s μ' ν') (f1 : ∀ k, k < 98 → μ'.1 k = μ.1 k) (g1 : ∀ k, k ≠ 2 → k ≠ 6 → k ≠ 8 → k ≠ 9 → ν'.1 k = ν.1 k) : zr_rel μ' ν' := by
  obtain ⟨⟨T, h1, h2, h3⟩, hp, hk, ht, _⟩ := h
  have G : ∀ k, k ≠ 2 → k ≠ 6 → k ≠ 8 → k ≠ 9 → ν'.1 k = ν.1 k := g1
  have G0 : ν'.1 0 = ν.1 0 := g1 0 (by decide) (by decide) (by decide) (by decide)
  exact ⟨⟨T, h1.fr' (fun k k1 k2 => f1 k (by omega)), h2.fr (G 1 (by decide) (by decide) (by decide) (by decide)), h3⟩, hp.fr (fun k k1 k2 => f1 k (by omega)) (G 3 (by decide) (by decide) (by decide) (by decide)) (by rw [G0]), hk.fr (by rw [f1 0 (by omega)]) (fun k k1 k2 => f1 k (by omega)) (G 4 (by decide) (by decide) (by decide) (by decide)) (G 5 (by decide) (by decide) (by decide) (by decide)) (by rw [G0]) (by rw [G0]), ht.fr (by rw [f1 95 (by omega)]) (f1 96 (by omega)) (by rw [G0]) (G 7 (by decide) (by decide) (by decide) (by decide)), hs⟩
/-- a sheet that isn't touched -/
theorem zr_sheet.ot {s : Nat} {μ ν μ' ν' : ZM} (h : zr_sheet s μ ν) (e0 : μ'.1 (103 + 2 * s) = μ.1 (103 + 2 * s)) (e1 : μ'.2 (104 + 2 * s) = μ.2 (104 + 2 * s)) (e2 : ν'.1 8 s = ν.1 8 s) (e3 : ν'.1 9 s = ν.1 9 s) (e4 : ∀ i, i < 24 → ν'.2 10 (24 * s + i) = ν.2 10 (24 * s + i)) : zr_sheet s μ' ν' := by
  obtain ⟨l, w, h1, h2, h3, h4, h5, h6, h7⟩ := h
  exact ⟨l, w, h1, h2, by rw [e0]; exact h3, by rw [e0]; exact h4, by rw [e2]; exact h5, by rw [e3]; exact h6, fun i hi => by rw [e1, e4 i hi]; exact h7 i hi⟩
theorem zl_sheet {N : Nat} (hN : 300 ≤ N) (a c e : Int32) : zl_ok zr_rel (f_X4_sheet N 0 a c e) (f_X5_sheet N 0 a c e) := by
  intro μ ν hR
  obtain ⟨_, _, _, _, hs⟩ := id hR
  unfold f_X4_sheet f_X5_sheet
  rcases zp_four (N := N) a with ⟨s, s4, rfl, p1, _, p2, _⟩ | ⟨p1, _, p2, _⟩
  · rcases zp_four (N := N) c with ⟨l, l4, rfl, _, q1, _, q2⟩ | ⟨_, q1, _, q2⟩
    · simp only [p1, p2, q1, q2, Option.bind_some, zt10, if_false]
      by_cases h1 : e ≤ 24
      · by_cases h2 : 0 ≤ e
        · obtain ⟨w, hw, rfl⟩ : ∃ w : Nat, w ≤ 24 ∧ e = nI w := by
            rcases zp_num e with h | ⟨k, hk, rfl⟩
            · exact absurd h2 (Int32.not_le.mpr h)
            · by_cases h3 : k ≤ 24
              · exact ⟨k, h3, rfl⟩
              · exact absurd h1 (nI_ge (a := 24) (by omega) hk)
          have f1 := zp_renew_L (N := N) (k := 97 + 6 + 2 * s) (x1 := nI l) (x2 := nI w) (μ := μ) N 0 (by omega) (by omega)
          rw [zz_0] at f1
          have f1 : f_X1_renew N (97 + 6 + 2 * s) (nI l) (nI w) μ = _ := f1
          have g1 := zq_renew_L (N := N) (x := nI w) (ν := zk_si (zk_si ν 8 s (nI (l + 1))) 9 s (nI w)) s4 N 0 (by omega) (by omega)
          rw [zz_0] at g1
          have g1 : f_X5_sheet_L50 N N 0 (nI s) (nI w) 0 (zk_si (zk_si ν 8 s (nI (l + 1))) 9 s (nI w)) = _ := g1
          simp only [h1, h2, if_true, zp_o s4 (show 4 < 2 ^ 31 by omega), nI_clamp (show s < 2 ^ 31 by omega), Bool.false_eq_true, if_false, Nat.zero_add, f1, Option.bind_some, nI_1, g1]
          rw [show 97 + 6 + 2 * s = 103 + 2 * s by omega]
          refine ⟨_, _, _, rfl, rfl, zr_sh hR (fun t t4 => ?_) (fun k hk => ?_) (fun k k2 k6 k8 k9 => ?_)⟩
          · by_cases e : t = s
            · subst e
              refine ⟨l + 1, w, by omega, hw, ?_, zp_ss, ?_, ?_, fun i hi => ?_⟩
              · rw [zp_sk (by omega), zp_ss]
                exact (zp_usz l (by omega)).symm
              · show (zk_si (zk_si ν 8 t (nI (l + 1))) 9 t (nI w)).1 8 t = _
                rw [zp_sk (by omega), zp_ss]
              · show (zk_si (zk_si ν 8 t (nI (l + 1))) 9 t (nI w)).1 9 t = _
                exact zp_ss
              · show (if 104 + 2 * t = 103 + 2 * t + 1 ∧ 0 ≤ i ∧ i < 0 + 24 then (0 : Int64) else _) = (if 10 = 10 ∧ 24 * t ≤ 24 * t + i ∧ 24 * t + i < 24 * t + 24 then (0 : Int64) else _)
                rw [if_pos ⟨by omega, by omega, by omega⟩, if_pos ⟨rfl, by omega, by omega⟩]
            · refine (hs t t4).ot ?_ ?_ ?_ ?_ (fun i hi => ?_)
              · have n1 : 103 + 2 * t ≠ 103 + 2 * s := by omega
                simp only [zk_si, n1, if_false, zk_z]
              · funext j
                show (if 104 + 2 * t = 103 + 2 * s + 1 ∧ _ then (0 : Int64) else μ.2 (104 + 2 * t) j) = _
                rw [if_neg (by omega)]
              · show (zk_si (zk_si ν 8 s (nI (l + 1))) 9 s (nI w)).1 8 t = _
                rw [zp_sk (by omega), zp_sk (by omega)]
              · show (zk_si (zk_si ν 8 s (nI (l + 1))) 9 s (nI w)).1 9 t = _
                rw [zp_sk (by omega), zp_sk (by omega)]
              · show (if 10 = 10 ∧ 24 * s ≤ 24 * t + i ∧ 24 * t + i < 24 * s + 24 then (0 : Int64) else ν.2 10 (24 * t + i)) = _
                rw [if_neg (by omega)]
          · have n1 : k ≠ 103 + 2 * s := by omega
            simp only [zk_si, n1, if_false, zk_z]
          · simp only [zk_si, k8, k9, if_false, zk_z]
        · simp only [h1, h2, if_true, if_false]
          exact ⟨-14, μ, ν, rfl, rfl, hR⟩
      · simp only [h1, if_false]
        exact ⟨-1, μ, ν, rfl, rfl, hR⟩
    · simp only [p1, p2, q1, q2, Option.bind_some, zt10, if_false, if_true]
      exact ⟨-1, μ, ν, rfl, rfl, hR⟩
  · simp only [p1, p2, Option.bind_some, if_true]
    exact ⟨-1, μ, ν, rfl, rfl, hR⟩
theorem zn_none : ∀ l, l < 5 → ((nI l - 1 = (-1 : Int32)) ↔ l = 0) ∧ ((nI l = 0) ↔ l = 0) := by decide +kernel
theorem zl_drop {N : Nat} (a : Int32) : zl_ok zr_rel (f_X4_drop N 0 a) (f_X5_drop N 0 a) := by
  intro μ ν hR
  obtain ⟨_, _, _, _, hs⟩ := id hR
  unfold f_X4_drop f_X5_drop
  rcases zp_four (N := N) a with ⟨s, s4, rfl, p1, _, p2, _⟩ | ⟨p1, _, p2, _⟩
  · obtain ⟨l, w, h1, h2, h3, h4, h5, h6, h7⟩ := hs s s4
    have es : 97 + 6 + 2 * s = 103 + 2 * s := by omega
    obtain ⟨n1, n2⟩ := zn_none l (by omega)
    simp only [p1, p2, Option.bind_some, zt10, not_false_eq_true, if_true, zp_o s4 (show 4 < 2 ^ 31 by omega), nI_clamp (show s < 2 ^ 31 by omega), Bool.false_eq_true, if_false, Nat.zero_add, es, h3, h5]
    by_cases e : l = 0
    · have m1 : (nI l - 1 = (-1 : Int32)) = True := eq_true (n1.mpr e)
      have m2 : (nI l = 0) = True := eq_true (n2.mpr e)
      simp only [m1, m2, not_true_eq_false, if_false]
      exact ⟨-11, μ, ν, rfl, rfl, hR⟩
    · have m1 : (nI l - 1 = (-1 : Int32)) = False := eq_false (fun q => e (n1.mp q))
      have m2 : (nI l = 0) = False := eq_false (fun q => e (n2.mp q))
      have r1 : (zk_si μ (103 + 2 * s) 1 (-1)).1 (103 + 2 * s) 2 = nI w := by rw [zp_sk (by omega)]; exact h4
      have r2 : (zk_si ν 8 s 0).1 9 s = nI w := by rw [zp_sk (by omega)]; exact h6
      simp only [m1, m2, not_false_eq_true, if_true, r1, r2]
      refine ⟨_, _, _, rfl, rfl, zr_sh hR (fun t t4 => ?_) (fun k hk => ?_) (fun k k2 k6 k8 k9 => ?_)⟩
      · by_cases e : t = s
        · subst e
          exact ⟨0, w, by omega, h2, by rw [zp_ss]; decide, r1, by rw [zp_ss]; rfl, r2, h7⟩
        · refine (hs t t4).ot ?_ rfl ?_ ?_ (fun i hi => rfl)
          · have n1 : 103 + 2 * t ≠ 103 + 2 * s := by omega
            simp only [zk_si, n1, if_false]
          · rw [zp_sk (by omega)]
          · rw [zp_sk (by omega)]
      · have n1 : k ≠ 103 + 2 * s := by omega
        simp only [zk_si, n1, if_false]
      · simp only [zk_si, k8, if_false]
  · simp only [p1, p2, Option.bind_some, not_true_eq_false, if_false]
    exact ⟨-1, μ, ν, rfl, rfl, hR⟩
