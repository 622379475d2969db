-- items of sheets
theorem zn_sub {w i c : Nat} (hw : w ≤ 24) (hi : i < 2 ^ 31) (hc : c < 2 ^ 31) : (nI i ≤ nI w - nI c) ↔ i + c ≤ w := by
  rw [Int32.le_iff_toInt_le, Int32.toInt_sub, nI_toInt hi, nI_toInt hc, nI_toInt (show w < 2 ^ 31 by omega)]
  have e : ((w : Int) - (c : Int)).bmod (2 ^ 32) = (w : Int) - (c : Int) := by
    unfold Int.bmod
    simp only
    split <;> omega
  rw [e]
  omega
theorem zs_reach {N s l w : Nat} {μ ν : ZM} (s4 : s < 4) (hl : l ≤ 4) (hw : w ≤ 24) (h4 : μ.1 (103 + 2 * s) 2 = nI w) (h5 : ν.1 8 s = nI l) (h6 : ν.1 9 s = nI w) (x1 x2 : Int32) : ∃ b : Bool, f_X1_reaches N (103 + 2 * s) x1 x2 μ = some (if b = true then 1 else 0, μ) ∧ (∀ a : Int32, nI l = a + 1 → l ≠ 0 → f_X5_findOf N 0 (nI s) a x1 x2 ν = some (if b = true then 0 else -13, ν)) ∧ (b = true → ∃ i c : Nat, x1 = nI i ∧ x2 = nI c ∧ i + c ≤ w) := by
  have fo : ∀ a : Int32, nI l = a + 1 → l ≠ 0 → f_X5_findOf N 0 (nI s) a x1 x2 ν = if x1 < 0 then some (-13, ν) else if x2 < 0 then some (-13, ν) else if x1 ≤ nI w - x2 then some (0, ν) else some (-13, ν) := by
    intro a ha h0
    have m2 : (nI l = 0) = False := eq_false (fun q => h0 ((zn_none l (by omega)).2.mp q))
    unfold f_X5_findOf
    simp only [zp_o s4 (show 4 < 2 ^ 31 by omega), nI_clamp (show s < 2 ^ 31 by omega), Bool.false_eq_true, if_false, Nat.zero_add, h5, m2, not_false_eq_true, if_true, h6]
    rw [if_pos ha]
  unfold f_X1_reaches
  rw [h4]
  rcases zp_num x1 with g1 | ⟨i, hi, rfl⟩
  · refine ⟨false, ?_, fun a ha h0 => ?_, fun q => absurd q (by decide)⟩
    · rw [if_pos g1]; rfl
    · rw [fo a ha h0, if_pos g1]; rfl
  · rcases zp_num x2 with g2 | ⟨c, hc, rfl⟩
    · refine ⟨false, ?_, fun a ha h0 => ?_, fun q => absurd q (by decide)⟩
      · rw [if_neg (nI_pos hi), if_pos g2]; rfl
      · rw [fo a ha h0, if_neg (nI_pos hi), if_pos g2]; rfl
    · by_cases e : i + c ≤ w
      · have g := (zn_sub hw hi hc).mpr e
        refine ⟨true, ?_, fun a ha h0 => ?_, fun _ => ⟨i, c, rfl, rfl, e⟩⟩
        · rw [if_neg (nI_pos hi), if_neg (nI_pos hc), if_neg (Int32.not_lt.mpr g)]; rfl
        · rw [fo a ha h0, if_neg (nI_pos hi), if_neg (nI_pos hc), if_pos g]; rfl
      · have g : ¬ nI i ≤ nI w - nI c := fun q => e ((zn_sub hw hi hc).mp q)
        refine ⟨false, ?_, fun a ha h0 => ?_, fun q => absurd q (by decide)⟩
        · rw [if_neg (nI_pos hi), if_neg (nI_pos hc), if_pos (Int32.not_le.mp g)]; rfl
        · rw [fo a ha h0, if_neg (nI_pos hi), if_neg (nI_pos hc), if_neg g]; rfl
theorem zn_lane : ∀ l, l < 5 → ∀ a, a < 4 → ((nI l - 1 = nI a) ↔ l = a + 1) ∧ ((nI l = nI a + 1) ↔ l = a + 1) := by decide +kernel
theorem zs_find {N s a : Nat} {μ ν : ZM} (s4 : s < 4) (a4 : a < 4) (h : zr_sheet s μ ν) (x1 x2 : Int32) : ∃ v : Int32, f_X1_faultOf N (103 + 2 * s) (nI a) x1 x2 μ = some (v, μ) ∧ f_X5_findOf N 0 (nI s) (nI a) x1 x2 ν = some (v, ν) ∧ (¬ v = 0 ∨ (v = 0 ∧ ∃ w i c : Nat, w ≤ 24 ∧ x1 = nI i ∧ x2 = nI c ∧ i + c ≤ w ∧ μ.1 (103 + 2 * s) 1 = nI a ∧ μ.1 (103 + 2 * s) 2 = nI w)) := by
  obtain ⟨l, w, h1, h2, h3, h4, h5, h6, h7⟩ := h
  obtain ⟨b, f1, g1, k1⟩ := zs_reach (N := N) s4 h1 h2 h4 h5 h6 x1 x2
  obtain ⟨n1, n2⟩ := zn_none l (by omega)
  obtain ⟨n3, n4⟩ := zn_lane l (by omega) a a4
  unfold f_X1_faultOf
  rw [h3]
  by_cases e0 : l = 0
  · refine ⟨-11, ?_, ?_, Or.inl (by decide)⟩
    · rw [if_neg (fun q => q (n1.mpr e0))]
    · unfold f_X5_findOf
      simp only [zp_o s4 (show 4 < 2 ^ 31 by omega), nI_clamp (show s < 2 ^ 31 by omega), Bool.false_eq_true, if_false, Nat.zero_add, h5]
      rw [if_neg (fun q => q (n2.mpr e0))]
  · rw [if_pos (fun q => e0 (n1.mp q))]
    by_cases e1 : l = a + 1
    · rw [if_pos (n3.mpr e1), f1]
      have g1 := g1 (nI a) (n4.mpr e1) e0
      cases b with
      | false => exact ⟨-13, rfl, g1, Or.inl (by decide)⟩
      | true =>
        obtain ⟨i, c, q1, q2, q3⟩ := k1 rfl
        exact ⟨0, rfl, g1, Or.inr ⟨rfl, w, i, c, h2, q1, q2, q3, n3.mpr e1, h4⟩⟩
    · refine ⟨-12, ?_, ?_, Or.inl (by decide)⟩
      · rw [if_neg (fun q => e1 (n3.mp q))]
      · unfold f_X5_findOf
        simp only [zp_o s4 (show 4 < 2 ^ 31 by omega), nI_clamp (show s < 2 ^ 31 by omega), Bool.false_eq_true, if_false, Nat.zero_add, h5]
        rw [if_pos (fun q => e0 (n2.mp q)), if_neg (fun q => e1 (n4.mp q))]
theorem zs_low {N k a : Nat} {μ ν : ZM} (a4 : a < 4) (h : μ.1 k 1 = nI a) (x : Int64) : ∃ v, f_X1_lowestBits N k x μ = some (v, μ) ∧ f_X5_lowest N (nI a) x ν = some (v, ν) := by
  unfold f_X1_lowestBits f_X5_lowest
  rw [h]
  rcases (show a = 0 ∨ a = 1 ∨ a = 2 ∨ a = 3 by omega) with rfl | rfl | rfl | rfl
  · rw [if_pos (by decide), if_neg (by decide)]; exact ⟨_, rfl, rfl⟩
  · rw [if_neg (by decide), if_pos (by decide), if_pos (by decide), if_neg (by decide)]; exact ⟨_, rfl, rfl⟩
  · rw [if_neg (by decide), if_neg (by decide), if_pos (by decide), if_pos (by decide), if_pos (by decide), if_neg (by decide)]; exact ⟨_, rfl, rfl⟩
  · rw [if_neg (by decide), if_neg (by decide), if_neg (by decide), if_pos (by decide), if_pos (by decide), if_pos (by decide)]; exact ⟨_, rfl, rfl⟩
theorem zr_put {s i : Nat} {v : Int64} {μ ν : ZM} (s4 : s < 4) (hi : i < 24) (h : ∀ t, t < 4 → zr_sheet t μ ν) : ∀ t, t < 4 → zr_sheet t (zk_sj μ (104 + 2 * s) i v) (zk_sj ν 10 (24 * s + i) v) := by
  intro t t4
  obtain ⟨l, w, h1, h2, h3, h4, h5, h6, h7⟩ := h t t4
  refine ⟨l, w, h1, h2, h3, h4, h5, h6, fun j hj => ?_⟩
  by_cases e : t = s ∧ j = i
  · obtain ⟨rfl, rfl⟩ := e
    rw [zj_ss, zj_ss]
  · rw [zj_sk (by omega), zj_sk (by omega)]
    exact h7 j hj
theorem zl_item {N : Nat} (a c e : Int32) (x : Int64) : zl_ok zr_rel (f_X4_item N 0 a c e x) (f_X5_item N 0 a c e x) := by
  intro μ ν hR
  obtain ⟨_, _, _, _, hs⟩ := id hR
  unfold f_X4_item f_X5_item
  rcases zp_four (N := N) a with ⟨s, s4, rfl, p1, _, p2, _⟩ | ⟨p1, _, p2, _⟩
  · rcases zp_four (N := N) c with ⟨l, l4, rfl, _, q1, _, q2⟩ | ⟨_, q1, _, q2⟩
    · have es : 97 + 6 + 2 * s = 103 + 2 * s := by omega
      obtain ⟨v, f1, g1, hv⟩ := zs_find (N := N) s4 l4 (hs s s4) e 1
      simp only [p1, p2, q1, q2, Option.bind_some, zt10, if_false, if_true, not_false_eq_true, zp_o s4 (show 4 < 2 ^ 31 by omega), nI_clamp (show s < 2 ^ 31 by omega), Bool.false_eq_true, Nat.zero_add, es, f1, g1]
      rcases hv with hv | ⟨hv, w, i, c, w24, rfl, c1, hic, m1, m2⟩
      · simp only [hv, if_false]
        exact ⟨v, μ, ν, rfl, rfl, hR⟩
      · have c1 : c = 1 := ((nI_eq (a := 1) (by omega) (by omega)).mp c1).symm
        subst c1
        obtain ⟨y, f2, g2⟩ := zs_low (N := N) (ν := ν) l4 m1 x
        have f3 : f_X1_put N (103 + 2 * s) (nI i) x μ = some (zk_sj μ (104 + 2 * s) i y) := by
          unfold f_X1_put
          rw [if_neg (nI_pos (by omega)), m2, if_neg (nI_ge (by omega) (by omega)), f2]
          simp only [Option.bind_some, zp_o (show i < 24 by omega) (show 24 < 2 ^ 31 by omega), nI_clamp (show i < 2 ^ 31 by omega), Bool.false_eq_true, if_false]
          rw [show 103 + 2 * s + 1 = 104 + 2 * s by omega]
        simp only [hv, if_true, f3, g2, Option.bind_some, zq_24 s s4, nI_add, zp_o (show 24 * s + i < 96 by omega) (show 96 < 2 ^ 31 by omega), nI_clamp (show 24 * s + i < 2 ^ 31 by omega), Bool.false_eq_true, if_false]
        exact ⟨1, _, _, rfl, rfl, zr_sh hR (zr_put s4 (by omega) hs) (fun _ _ => rfl) (fun _ _ _ _ _ => rfl)⟩
    · simp only [p1, p2, q1, q2, Option.bind_some, zt10, if_false, not_true_eq_false]
      exact ⟨-1, μ, ν, rfl, rfl, hR⟩
  · simp only [p1, p2, Option.bind_some, if_true]
    exact ⟨-1, μ, ν, rfl, rfl, hR⟩
-- copies of items
theorem zcj_rd (μ : ZM) (k0 k1 sp dp n q j : Nat) : (zk_cj μ k0 k1 sp dp n).2 q j = if q = k1 ∧ dp ≤ j ∧ j < dp + n then μ.2 k0 (sp + (j - dp)) else μ.2 q j := by
  unfold zk_cj va_cpy
  simp only
  by_cases e : q = k1
  · subst e
    by_cases e2 : dp ≤ j ∧ j < dp + n
    · rw [if_pos rfl, if_pos e2, if_pos ⟨rfl, e2⟩]
    · rw [if_pos rfl, if_neg e2, if_neg (fun q => e2 q.2)]
  · rw [if_neg e, if_neg (fun q => e q.1)]
theorem zcj_ne {μ : ZM} {k0 k1 sp dp n q : Nat} (h : q ≠ k1) : (zk_cj μ k0 k1 sp dp n).2 q = μ.2 q := by
  funext j
  rw [zcj_rd, if_neg (fun q => h q.1)]
theorem zcj_0 (μ : ZM) (k0 k1 sp dp : Nat) : zk_cj μ k0 k1 sp dp 0 = μ := by
  refine Prod.ext rfl ?_
  funext q j
  rw [zcj_rd, if_neg (by omega)]
theorem zcj_s {μ : ZM} {k0 k1 sp dp m : Nat} {v : Int64} (hv : v = μ.2 k0 (sp + m)) : zk_sj (zk_cj μ k0 k1 sp dp m) k1 (dp + m) v = zk_cj μ k0 k1 sp dp (m + 1) := by
  refine Prod.ext rfl ?_
  funext q j
  rw [zj_si, zcj_rd, zcj_rd]
  by_cases e : q = k1
  · by_cases e2 : j = dp + m
    · rw [if_pos ⟨e, e2⟩, if_pos ⟨e, by omega, by omega⟩, hv, e2, show dp + m - dp = m by omega]
    · rw [if_neg (fun q => e2 q.2)]
      by_cases e3 : dp ≤ j ∧ j < dp + m
      · rw [if_pos ⟨e, e3⟩, if_pos ⟨e, by omega, by omega⟩]
      · rw [if_neg (fun q => e3 q.2), if_neg (fun q => e3 ⟨q.2.1, by omega⟩)]
  · rw [if_neg (fun q => e q.1), if_neg (fun q => e q.1), if_neg (fun q => e q.1)]
theorem zq_cp2_L {N t j c : Nat} {ν : ZM} (t4 : t < 4) (hj : j + c ≤ 24) : ∀ (f m : Nat), c < m + f → m ≤ c → f_X5_copy_L137 N f 0 (nI t) (nI j) (nI c) (nI m) (zk_cj ν 11 10 0 (24 * t + j) m) = some (nI c, zk_cj ν 11 10 0 (24 * t + j) c)
  | 0, m, hf, hm => absurd hf (by omega)
  | f + 1, m, hf, hm => by
    unfold f_X5_copy_L137
    by_cases hin : m < c
    · rw [if_neg (nI_ge hin (by omega)), nI_1, zq_24 t t4, nI_add, nI_add]
      simp only [zp_o (show m < 24 by omega) (show 24 < 2 ^ 31 by omega), zp_o (show 24 * t + j + m < 96 by omega) (show 96 < 2 ^ 31 by omega), nI_clamp (show m < 2 ^ 31 by omega), nI_clamp (show 24 * t + j + m < 2 ^ 31 by omega), Bool.false_eq_true, if_false, Nat.zero_add]
      rw [zcj_ne (show (11 : Nat) ≠ 10 by decide), zcj_s (by rw [Nat.zero_add])]
      exact zq_cp2_L t4 hj f (m + 1) (by omega) (by omega)
    · have : m = c := by omega
      subst this
      rw [if_pos (nI_le (Nat.le_refl _) (by omega))]
theorem zq_cp1_L {N s i c : Nat} {x3 x4 : Int32} {ν : ZM} (s4 : s < 4) (hi : i + c ≤ 24) : ∀ (f m : Nat), c < m + f → m ≤ c → f_X5_copy_L100 N f 0 (nI s) (nI i) x3 x4 (nI c) (nI m) (zk_cj ν 10 11 (24 * s + i) 0 m) = f_X5_copy_L137 N N 0 x3 x4 (nI c) 0 (zk_cj ν 10 11 (24 * s + i) 0 c)
  | 0, m, hf, hm => absurd hf (by omega)
  | f + 1, m, hf, hm => by
    conv => lhs; unfold f_X5_copy_L100
    by_cases hin : m < c
    · rw [if_neg (nI_ge hin (by omega)), nI_1, zq_24 s s4, nI_add, nI_add]
      simp only [zp_o (show m < 24 by omega) (show 24 < 2 ^ 31 by omega), zp_o (show 24 * s + i + m < 96 by omega) (show 96 < 2 ^ 31 by omega), nI_clamp (show m < 2 ^ 31 by omega), nI_clamp (show 24 * s + i + m < 2 ^ 31 by omega), Bool.false_eq_true, if_false, Nat.zero_add]
      have e := zcj_s (μ := ν) (k0 := 10) (k1 := 11) (sp := 24 * s + i) (dp := 0) (m := m) rfl
      rw [Nat.zero_add] at e
      rw [zcj_ne (show (10 : Nat) ≠ 11 by decide), e]
      exact zq_cp1_L s4 hi f (m + 1) (by omega) (by omega)
    · have : m = c := by omega
      subst this
      rw [if_pos (nI_le (Nat.le_refl _) (by omega))]
theorem zn_up : ∀ l, l < 5 → nI l = nI l - 1 + 1 := by decide +kernel
theorem zn_same : ∀ l, l < 5 → ∀ k, k < 5 → ((nI l - 1 = nI k - 1) ↔ l = k) ∧ ((nI l = nI k) ↔ l = k) := by decide +kernel
theorem zl_copy {N : Nat} (hN : 300 ≤ N) (a b c d e : Int32) : zl_ok zr_rel (f_X4_copy N 0 a b c d e) (f_X5_copy N 0 a b c d e) := by
  intro μ ν hR
  obtain ⟨_, _, _, _, hs⟩ := id hR
  unfold f_X4_copy f_X5_copy
  rcases zp_four (N := N) a with ⟨s, s4, rfl, p1, _, p2, _⟩ | ⟨p1, _, p2, _⟩
  · rcases zp_four (N := N) c with ⟨t, t4, rfl, q1, _, q2, _⟩ | ⟨q1, _, q2, _⟩
    · have es : 97 + 6 + 2 * s = 103 + 2 * s := by omega
      have et : 97 + 6 + 2 * t = 103 + 2 * t := by omega
      obtain ⟨l, w, h1, h2, h3, h4, h5, h6, h7⟩ := hs s s4
      obtain ⟨l', w', h1', h2', h3', h4', h5', h6', h7'⟩ := hs t t4
      obtain ⟨n1, n2⟩ := zn_none l (by omega)
      obtain ⟨n1', n2'⟩ := zn_none l' (by omega)
      obtain ⟨n3, n4⟩ := zn_same l (by omega) l' (by omega)
      simp only [p1, p2, q1, q2, Option.bind_some, zt10, if_false, if_true, not_false_eq_true, zp_o s4 (show 4 < 2 ^ 31 by omega), nI_clamp (show s < 2 ^ 31 by omega), zp_o t4 (show 4 < 2 ^ 31 by omega), nI_clamp (show t < 2 ^ 31 by omega), Bool.false_eq_true, Nat.zero_add, es, et, h3, h3', h5, h5']
      by_cases e0 : l = 0
      · have m1 : (nI l - 1 = (-1 : Int32)) = True := eq_true (n1.mpr e0)
        have m2 : (nI l = 0) = True := eq_true (n2.mpr e0)
        simp only [m1, m2, if_true]
        exact ⟨-11, μ, ν, rfl, rfl, hR⟩
      have m1 : (nI l - 1 = (-1 : Int32)) = False := eq_false (fun q => e0 (n1.mp q))
      have m2 : (nI l = 0) = False := eq_false (fun q => e0 (n2.mp q))
      simp only [m1, m2, if_false]
      by_cases e1 : l' = 0
      · have m3 : (nI l' - 1 = (-1 : Int32)) = True := eq_true (n1'.mpr e1)
        have m4 : (nI l' = 0) = True := eq_true (n2'.mpr e1)
        simp only [m3, m4, not_true_eq_false, if_false]
        exact ⟨-11, μ, ν, rfl, rfl, hR⟩
      have m3 : (nI l' - 1 = (-1 : Int32)) = False := eq_false (fun q => e1 (n1'.mp q))
      have m4 : (nI l' = 0) = False := eq_false (fun q => e1 (n2'.mp q))
      simp only [m3, m4, not_false_eq_true, if_true]
      by_cases e2 : l = l'
      · have m5 : (nI l - 1 = nI l' - 1) = True := eq_true (n3.mpr e2)
        have m6 : (nI l = nI l') = True := eq_true (n4.mpr e2)
        obtain ⟨b1, f1, g1, k1⟩ := zs_reach (N := N) s4 h1 h2 h4 h5 h6 b e
        obtain ⟨b2, f2, g2, k2⟩ := zs_reach (N := N) t4 h1' h2' h4' h5' h6' d e
        have g1 := g1 (nI l - 1) (zn_up l (by omega)) e0
        have g2 := g2 (nI l' - 1) (zn_up l' (by omega)) e1
        simp only [m5, m6, if_true, f1, g1, Option.bind_some]
        cases b1 with
        | false =>
          have z13 : ((-13 : Int32) = 0) = False := eq_false (by decide)
          simp only [Bool.false_eq_true, if_false, if_true, z13, not_false_eq_true]
          exact ⟨-13, μ, ν, rfl, rfl, hR⟩
        | true =>
          simp only [if_true, zt10, if_false, not_true_eq_false, f2, h5', g2, Option.bind_some]
          cases b2 with
          | false =>
            have z13 : ((-13 : Int32) = 0) = False := eq_false (by decide)
            simp only [Bool.false_eq_true, if_false, z13, not_true_eq_false]
            exact ⟨-13, μ, ν, rfl, rfl, hR⟩
          | true =>
            obtain ⟨i, n, rfl, rfl, hin⟩ := k1 rfl
            obtain ⟨j, n', rfl, hn', hjn⟩ := k2 rfl
            have hn' : n = n' := (nI_eq (by omega) (by omega)).mp hn'
            subst hn'
            have G1 := zq_cp1_L (N := N) (s := s) (i := i) (c := n) (x3 := nI t) (x4 := nI j) (ν := ν) s4 (by omega) N 0 (by omega) (by omega)
            have G2 := zq_cp2_L (N := N) (t := t) (j := j) (c := n) (ν := zk_cj ν 10 11 (24 * s + i) 0 n) t4 (by omega) N 0 (by omega) (by omega)
            rw [zcj_0] at G1 G2
            have G : f_X5_copy_L100 N N 0 (nI s) (nI i) (nI t) (nI j) (nI n) 0 ν = _ := G1.trans G2
            simp only [if_true, zt10, not_false_eq_true, G, nI_clamp (show i < 2 ^ 31 by omega), nI_clamp (show j < 2 ^ 31 by omega), nI_clamp (show n < 2 ^ 31 by omega)]
            rw [if_pos ⟨nI_pos (by omega), nI_pos (by omega), nI_pos (by omega), by omega, by omega⟩, show 103 + 2 * s + 1 = 104 + 2 * s by omega, show 103 + 2 * t + 1 = 104 + 2 * t by omega]
            refine ⟨_, _, _, rfl, rfl, zr_sh hR (fun u u4 => ?_) (fun _ _ => rfl) (fun _ _ _ _ _ => rfl)⟩
            obtain ⟨a1, a2, a3, a4, a5, a6, a7, a8, a9⟩ := hs u u4
            refine ⟨a1, a2, a3, a4, a5, a6, a7, a8, fun m hm => ?_⟩
            rw [zcj_rd, zcj_rd]
            by_cases eu : u = t ∧ j ≤ m ∧ m < j + n
            · rw [if_pos ⟨by omega, eu.2⟩, if_pos ⟨rfl, by omega, by omega⟩, zcj_rd, if_pos ⟨rfl, by omega, by omega⟩, h7 _ (by omega)]
              exact congrArg (ν.2 10) (by omega)
            · rw [if_neg (by omega), if_neg (by omega), zcj_ne (by decide)]
              exact a9 m hm
      · have m5 : (nI l - 1 = nI l' - 1) = False := eq_false (fun q => e2 (n3.mp q))
        have m6 : (nI l = nI l') = False := eq_false (fun q => e2 (n4.mp q))
        simp only [m5, m6, if_false]
        exact ⟨-12, μ, ν, rfl, rfl, hR⟩
    · simp only [p1, p2, q1, q2, Option.bind_some, zt10, if_false, not_true_eq_false]
      exact ⟨-1, μ, ν, rfl, rfl, hR⟩
  · simp only [p1, p2, Option.bind_some, if_true]
    exact ⟨-1, μ, ν, rfl, rfl, hR⟩
