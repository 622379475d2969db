-- film
theorem zn_low : ∀ t, t < 20 → Int32.toInt64 (Int8.toInt32 (Int32.toInt8 (Int64.toInt32 (Int32.toInt64 (nI t))))) = Int32.toInt64 (nI t) ∧ Int32.toInt64 (Int16.toInt32 (Int32.toInt16 (Int64.toInt32 (Int32.toInt64 (nI t))))) = Int32.toInt64 (nI t) ∧ Int32.toInt64 (Int64.toInt32 (Int32.toInt64 (nI t))) = Int32.toInt64 (nI t) := by decide +kernel
theorem zp_low {N k a t : Nat} {μ : ZM} (a4 : a < 4) (ht : t < 20) (h : μ.1 k 1 = nI a) : f_X1_lowestBits N k (Int32.toInt64 (nI t)) μ = some (Int32.toInt64 (nI t), μ) := by
  obtain ⟨n1, n2, n3⟩ := zn_low t ht
  unfold f_X1_lowestBits
  rw [h, n1, n2, n3]
  rcases (show a = 0 ∨ a = 1 ∨ a = 2 ∨ a = 3 by omega) with rfl | rfl | rfl | rfl
  · rw [if_pos (by decide)]
  · rw [if_neg (by decide), if_pos (by decide)]
  · rw [if_neg (by decide), if_neg (by decide), if_pos (by decide)]
  · rw [if_neg (by decide), if_neg (by decide), if_neg (by decide)]
theorem zl_film_L {N s a w c n i : Nat} (hN : 300 ≤ N) (s4 : s < 4) (a4 : a < 4) (hw : w ≤ 24) (hi : i + n ≤ w) : ∀ (f m : Nat) (μ ν : ZM) (T : Tw), n < m + f → m ≤ n → (∀ t, t < 4 → zr_sheet t μ ν) → μ.1 (103 + 2 * s) 1 = nI a → μ.1 (103 + 2 * s) 2 = nI w → CT μ 98 T → RT ν 2 0 T → tok T → c < tn T → ty T + (n - m) < 2 ^ 30 → ∃ μ' ν', f_X4_film_L77 N f 0 (nI c) (nI n) (nI i) (103 + 2 * s) (nI m) μ = some (nI n, μ') ∧ f_X5_film_L64 N f 0 (nI c) (nI n) (nI s) (nI i) (nI m) ν = some (nI n, ν') ∧ (∀ t, t < 4 → zr_sheet t μ' ν') ∧ (∀ k, k < 98 → μ'.1 k = μ.1 k) ∧ (∀ k, k ≠ 2 → k ≠ 6 → ν'.1 k = ν.1 k)
  | 0, m, μ, ν, T, hf, hm, hs, h1, h2, hc, hr, hT, hcn, hy => absurd hf (by omega)
  | f + 1, m, μ, ν, T, hf, hm, hs, h1, h2, hc, hr, hT, hcn, hy => by
    unfold f_X4_film_L77 f_X5_film_L64
    have h7 := hT.1
    by_cases hin : m < n
    · have hl : (nI n ≤ nI m) = False := eq_false (nI_ge hin (by omega))
      obtain ⟨μ1, f1, c1, r1⟩ := zp_pass (N := N) (by omega) hc hT (by omega)
      obtain ⟨ν1, g1, e1, s1⟩ := zq_pass (N := N) (by omega) (show 2 ≠ 6 by decide) hr hT (by omega)
      have hP := tok_pass hT
      have hcp : c < tn (pass T) := hcn
      have u4 : μ1.1 102 c = nI (tt (pass T) c) := (c1.2.2.2.2 c hcp).2.2.2
      have w4 := (zq_at e1 hcp).2.2.2
      have ht := (hP.2.2.2 c hcp).2.2.2
      have k1 : μ1.1 (103 + 2 * s) 1 = nI a := by rw [r1.1 _ (by omega)]; exact h1
      have k2 : μ1.1 (103 + 2 * s) 2 = nI w := by rw [r1.1 _ (by omega)]; exact h2
      have f3 : f_X1_put N (103 + 2 * s) (nI (i + m)) (Int32.toInt64 (nI (tt (pass T) c))) μ1 = some (zk_sj μ1 (104 + 2 * s) (i + m) (Int32.toInt64 (nI (tt (pass T) c)))) := by
        unfold f_X1_put
        rw [if_neg (nI_pos (by omega)), k2, if_neg (nI_ge (by omega) (by omega)), zp_low a4 (by omega) k1]
        simp only [Option.bind_some, zp_o (show i + m < 24 by omega) (show 24 < 2 ^ 31 by omega), nI_clamp (show i + m < 2 ^ 31 by omega), Bool.false_eq_true, if_false]
        rw [show 103 + 2 * s + 1 = 104 + 2 * s by omega]
      rw [show (25 : Int32) = nI 25 from rfl]
      simp only [hl, if_false, Nat.zero_add, Nat.reduceAdd, f1, g1, Option.bind_some, nI_1, nI_add, zq_24 s s4, zp_o (show c < 7 by omega) (show 7 < 2 ^ 31 by omega), nI_clamp (show c < 2 ^ 31 by omega), zp_o (show 25 + c < 32 by omega) (show 32 < 2 ^ 31 by omega), nI_clamp (show 25 + c < 2 ^ 31 by omega), zp_o (show 24 * s + i + m < 96 by omega) (show 96 < 2 ^ 31 by omega), nI_clamp (show 24 * s + i + m < 2 ^ 31 by omega), Bool.false_eq_true, u4, w4, f3]
      have hs1 : ∀ t, t < 4 → zr_sheet t μ1 ν1 := fun t t4 => (hs t t4).fr (r1.1 _ (by omega)) (by rw [r1.2]) (s1.1 8 (by decide) (by decide)) (s1.1 9 (by decide) (by decide)) (by rw [s1.2])
      have hs2 := zr_put (s := s) (i := i + m) (v := Int32.toInt64 (nI (tt (pass T) c))) s4 (by omega) hs1
      rw [← Nat.add_assoc] at hs2
      obtain ⟨μ', ν', b1, b2, b3, b4, b5⟩ := zl_film_L hN s4 a4 hw hi f (m + 1) _ _ (pass T) (by omega) (by omega) hs2 k1 k2 c1 e1 hP hcp (by show ty T + 1 + _ < _; omega)
      exact ⟨μ', ν', b1, b2, b3, fun k hk => (b4 k hk).trans (r1.1 k (by omega)), fun k k2 k6 => (b5 k k2 k6).trans (s1.1 k k2 k6)⟩
    · have hl : (nI n ≤ nI m) = True := eq_true (nI_le (by omega) (by omega))
      simp only [hl, if_true]
      exact ⟨μ, ν, rfl, rfl, hs, fun _ _ => rfl, fun _ _ _ => rfl⟩
theorem zl_film {N : Nat} (hN : 300 ≤ N) (a b c d e : Int32) : zl_ok zr_rel (f_X4_film N 0 a b c d e) (f_X5_film N 0 a b c d e) := by
  intro μ ν hR
  obtain ⟨⟨T, hc, hr, hT, hy⟩, _, _, _, hs⟩ := id hR
  unfold f_X4_film f_X5_film
  rcases zp_couple (N := N) (x := a) hT with ⟨k, k1, rfl, p1, p2⟩ | ⟨p1, p2⟩
  · rcases zp_in (N := N) (a := 1) (b := 24) (x := b) (by omega) (by omega) with ⟨n, n1, n2, rfl, e1, e2⟩ | ⟨e1, e2⟩
    · have e1 : ∀ μ, f_X4_within N (nI n) 1 24 μ = some (1, μ) := e1
      have e2 : ∀ μ, f_X5_in N (nI n) 1 24 μ = some (1, μ) := e2
      rcases zp_four (N := N) c with ⟨s, s4, rfl, q1, _, q2, _⟩ | ⟨q1, _, q2, _⟩
      · rcases zp_four (N := N) d with ⟨l, l4, rfl, _, o1, _, o2⟩ | ⟨_, o1, _, o2⟩
        · have es : 97 + 6 + 2 * s = 103 + 2 * s := by omega
          obtain ⟨v, f1, g1, hv⟩ := zs_find (N := N) s4 l4 (hs s s4) e (nI n)
          simp only [p1 μ hc, p2 ν hr, e1, e2, q1, q2, o1, o2, Option.bind_some, zt10, if_false, if_true, not_false_eq_true, zp_o s4 (show 4 < 2 ^ 31 by omega), nI_clamp (show s < 2 ^ 31 by omega), Bool.false_eq_true, Nat.zero_add, es, f1, g1]
          rcases hv with hv | ⟨hv, w, i, m, w24, rfl, c1, hic, m1, m2⟩
          · simp only [hv, if_false]
            exact ⟨v, μ, ν, rfl, rfl, hR⟩
          · have c1 : n = m := (nI_eq (by omega) (by omega)).mp c1
            subst c1
            obtain ⟨μ1, f2, c2, r2⟩ := zp_become (N := N) (a := 98) (b := 1) hc hT.1 (by omega)
            obtain ⟨ν1, g2, d2, s2⟩ := zq_take (N := N) (by omega) hr hT
            have hs1 : ∀ t, t < 4 → zr_sheet t μ1 ν1 := fun t t4 => (hs t t4).fr (r2.1 _ (by omega)) (by rw [r2.2]) (s2.1 8 (by decide) (by decide)) (s2.1 9 (by decide) (by decide)) (by rw [s2.2])
            obtain ⟨μ', ν', b1, b2, b3, b4, b5⟩ := zl_film_L (c := k) hN s4 l4 w24 hic N 0 μ1 ν1 T (by omega) (by omega) hs1 (by rw [r2.1 _ (by omega)]; exact m1) (by rw [r2.1 _ (by omega)]; exact m2) c2 d2 hT k1 (by omega)
            have b1 : f_X4_film_L77 N N 0 (nI k) (nI n) (nI i) (103 + 2 * s) 0 μ1 = _ := b1
            have b2 : f_X5_film_L64 N N 0 (nI k) (nI n) (nI s) (nI i) 0 ν1 = _ := b2
            simp only [hv, if_true, f2, g2, Option.bind_some, b1, b2]
            exact ⟨_, μ', ν', rfl, rfl, zr_sh hR b3 (fun q hq => (b4 q hq).trans (r2.1 q (by omega))) (fun q q2 q6 _ _ => (b5 q q2 q6).trans (s2.1 q q2 q6))⟩
        · simp only [p1 μ hc, p2 ν hr, e1, e2, q1, q2, o1, o2, Option.bind_some, zt10, if_false, not_true_eq_false]
          exact ⟨-1, μ, ν, rfl, rfl, hR⟩
      · simp only [p1 μ hc, p2 ν hr, e1, e2, q1, q2, Option.bind_some, zt10, if_false, if_true]
        exact ⟨-1, μ, ν, rfl, rfl, hR⟩
    · have e1 : ∀ μ, f_X4_within N b 1 24 μ = some (0, μ) := e1
      have e2 : ∀ μ, f_X5_in N b 1 24 μ = some (0, μ) := e2
      simp only [p1 μ hc, p2 ν hr, e1, e2, Option.bind_some, zt10, if_false, if_true]
      exact ⟨-1, μ, ν, rfl, rfl, hR⟩
  · simp only [p1 μ hc, p2 ν hr, Option.bind_some, if_true]
    exact ⟨-1, μ, ν, rfl, rfl, hR⟩
