-- numbers and couples, read
theorem zq_numL {N F p : Nat} {z : ZZ} {d : Nat} {T : Tw} {μ ν : ZM} {lo hi x3 x4 x5 x6 : Int32} (b : zbase z) (hF : 1 ≤ F) (h2 : ((2 : Int32) ≤ x6) = False) (h : zt z d p T μ ν) : f_X5_number_L24 N F 0 lo hi x3 x4 x5 x6 ν = if zdg z p = true then f_X5_number_L24 N (F - 1) 0 lo hi x3 x4 (((10 * x5) + nI (zzl z p)) - 48) (x6 + 1) (zk_si ν 0 11 (nI (p + 1))) else f_X5_number_J96 N 0 lo hi x3 x4 x5 ν := by
  obtain ⟨M, rfl⟩ : ∃ M, F = M + 1 := ⟨F - 1, by omega⟩
  obtain ⟨a1, a2, a3, a4, a5, a6, a7, a8, a9⟩ := h
  have hz := b.1
  conv => lhs; unfold f_X5_number_L24
  simp only [h2, if_false, a2.n b, a4, Nat.add_sub_cancel]
  by_cases e : p < zzn z
  · have l1 : (nI (zzn z) ≤ nI p) = False := eq_false (nI_ge e (by omega))
    have e4 : nI (zzl z p) = zlq z p := (if_pos e).symm
    have g : f_X5_in N (nI (zzl z p)) 48 57 ν = some (if zdg z p = true then 1 else 0, ν) := by rw [e4]; exact zq_dg b
    simp only [l1, if_false, zp_o (show p < 80 by omega) (show 80 < 2 ^ 31 by omega), nI_clamp (show p < 2 ^ 31 by omega), Bool.false_eq_true, Nat.zero_add, a2.l b e, g, Option.bind_some, a4, nI_1]
    cases hd : zdg z p with
    | false => simp only [Bool.false_eq_true, if_false, if_true]
    | true => simp only [if_true, zt10, if_false]
  · have l1 : (nI (zzn z) ≤ nI p) = True := eq_true (nI_le (by omega) (by omega))
    have hd : zdg z p = false := by unfold zdg; exact decide_eq_false (fun q => e q.1)
    simp only [l1, if_true, hd, Bool.false_eq_true, if_false]
theorem zq_numE {N F : Nat} {ν : ZM} {lo hi x3 x4 x5 x6 : Int32} (hF : 1 ≤ F) (h2 : ((2 : Int32) ≤ x6) = True) : f_X5_number_L24 N F 0 lo hi x3 x4 x5 x6 ν = f_X5_number_J96 N 0 lo hi x3 x4 x5 ν := by
  obtain ⟨M, rfl⟩ : ∃ M, F = M + 1 := ⟨F - 1, by omega⟩
  unfold f_X5_number_L24
  simp only [h2, if_true]
theorem zn_v1 : ∀ a, a < 58 → 48 ≤ a → nI a - 48 = nI (a - 48) ∧ ((10 * 0) + nI a) - 48 = nI (a - 48) := by decide +kernel
theorem zn_v2 : ∀ a, a < 10 → ∀ c, c < 58 → 48 ≤ c → ((nI a * 10) + nI c) - 48 = nI (10 * a + (c - 48)) ∧ ((10 * nI a) + nI c) - 48 = nI (10 * a + (c - 48)) := by decide +kernel
theorem zs_number {N lo hi d p : Nat} {z : ZZ} {T : Tw} {μ ν : ZM} (hN : 300 ≤ N) (b : zbase z) (hh : hi ≤ 99) (hl : lo ≤ hi) (h : zt z d p T μ ν) : zo3 z lo hi d T (f_X2_readNumber N 95 (nI lo) (nI hi) μ) (f_X5_number N 0 (nI lo) (nI hi) ν) := by
  obtain ⟨p1, μ1, ν1, f1, g1, h1, n1⟩ := zs_skip hN b h
  obtain ⟨a1, a2, a3, a4, a5, a6, a7, a8, a9⟩ := id h1
  have hz := b.1
  unfold f_X2_readNumber f_X5_number
  simp only [f1, g1, Option.bind_some, a3, a4, zp_let b a1 (show p1 < 2 ^ 31 by omega), zp_dg b, zq_dg b]
  rw [zq_numL b (show 1 ≤ N by omega) (eq_false (by decide)) h1]
  cases hd : zdg z p1 with
  | false =>
    simp only [Bool.false_eq_true, if_false, not_true_eq_false]
    unfold f_X5_number_J96
    simp only [if_true, zq_wrong (N := N) (x := nI p1) a6, Option.bind_some]
    exact Or.inr (Or.inl ⟨p1, _, _, _, rfl, rfl, h1.fl⟩)
  | true =>
    have hd := of_decide_eq_true hd
    have e1 : zlt z p1 = nI (zzl z p1) := if_pos hd.1
    have t1 := h1.to (p' := p1 + 1) (by omega)
    obtain ⟨v1, v2⟩ := zn_v1 (zzl z p1) (by omega) hd.2.1
    simp only [if_true, zt10, not_false_eq_true, zp_let b a1 (show p1 < 2 ^ 31 by omega), Option.bind_some, a3, nI_1, e1, v1, v2]
    have r5 : (zk_si μ1 95 2 (nI (p1 + 1))).1 95 2 = nI (p1 + 1) := zp_ss
    simp only [r5, zp_let b t1.1 (show p1 + 1 < 2 ^ 31 by omega), Option.bind_some, zp_dg b]
    rw [zq_numL b (show 1 ≤ N - 1 by omega) (eq_false (by decide)) t1]
    cases hd2 : zdg z (p1 + 1) with
    | false =>
      simp only [Bool.false_eq_true, if_false, if_true]
      exact zs_nfin b hh hl (by omega) t1
    | true =>
      have hd2 := of_decide_eq_true hd2
      have e2 : zlt z (p1 + 1) = nI (zzl z (p1 + 1)) := if_pos hd2.1
      have t2 := t1.to (p' := p1 + 1 + 1) (by omega)
      obtain ⟨w1, w2⟩ := zn_v2 (zzl z p1 - 48) (by omega) (zzl z (p1 + 1)) (by omega) hd2.2.1
      simp only [if_true, zt10, if_false, r5, zp_let b t1.1 (show p1 + 1 < 2 ^ 31 by omega), Option.bind_some, nI_1, e2, w1, w2]
      rw [zq_numE (show 1 ≤ N - 1 - 1 by omega) (eq_true (by decide))]
      exact zs_nfin b hh hl (by omega) t2
/-- what a couple comes to -/
def zo (z : ZZ) (d : Nat) (T : Tw) (F : Option (Int32 × ZM)) (G : Option ZM) : Prop :=
  (∃ (p : Nat) (U : Tw) (μ ν : ZM), F = some (1, μ) ∧ G = some ν ∧ zt z d p U μ ν ∧ tn U = tn T + 1 ∧ ty U = ty T) ∨ (∃ (q : Nat) (μ ν : ZM), F = some (0, μ) ∧ G = some ν ∧ zfl z q μ ν) ∨ (∃ (q : Nat) (U : Tw) (μ ν : ZM), F = some (1, μ) ∧ G = some ν ∧ zst z q U μ ν)
theorem zq_172w {N : Nat} {ν : ZM} {x2 x3 x4 x5 s0 : Int32} (h : ν.1 0 12 = 1) : f_X5_readCouple_J172 N 0 x2 x3 x4 x5 s0 ν = some ν := by
  unfold f_X5_readCouple_J172
  rw [h, if_pos (show ¬ (1 : Int32) = 0 by decide)]
theorem zq_149w {N : Nat} {ν : ZM} {x2 x3 x4 s0 : Int32} (h : ν.1 0 12 = 1) : f_X5_readCouple_J149 N 0 x2 x3 x4 s0 ν = some ν := by
  unfold f_X5_readCouple_J149
  rw [h, if_pos (show ¬ (1 : Int32) = 0 by decide)]
  exact zq_172w h
theorem zq_120w {N : Nat} {ν : ZM} {x2 x3 s0 : Int32} (h : ν.1 0 12 = 1) : f_X5_readCouple_J120 N 0 x2 x3 s0 ν = some ν := by
  unfold f_X5_readCouple_J120
  rw [h, if_pos (show ¬ (1 : Int32) = 0 by decide)]
  exact zq_149w h
theorem zs_join {N d p k w o t : Nat} {x : Bool} {z : ZZ} {T : Tw} {μ ν : ZM} (hd : d < 2 ^ 31) (hk : k ≤ 4) (hw : w ≤ 99) (ho : o ≤ 99) (ht : t ≤ 19) (hn : tn T < 7) (h : zt z d p T μ ν) : ∃ μ' ν', f_X3_settle N 98 (nI k) (nI w) (nI o) (nI t) (if x = true then 1 else 0) μ = some (nI (tn T), μ') ∧ f_X5_join N 2 (nI k) (nI w) (nI o) (nI t) (if x = true then 0 else 1) ν = some ν' ∧ zt z d p (zjn T k w o t x) μ' ν' := by
  obtain ⟨a1, a2, a3, a4, a5, a6, a7, a8, a9⟩ := h
  obtain ⟨μ', f1, c1, r1⟩ := zp_settle (N := N) (k := k) (w := w) (o := o) (t := t) (b := x) a7 a9.2.1 hn
  obtain ⟨ν', g1, e1, s1⟩ := zq_join (N := N) (k := k) (w := w) (o := o) (t := t) (b := x) a8 (tok_d (T := Td T 0) a9 hd) hn
  exact ⟨μ', ν', f1, g1, a1.fr r1, a2.fr s1, by rw [r1.1 95 (by omega)]; exact a3, by rw [s1.1 0 (by decide) (by decide)]; exact a4, a5, by rw [s1.1 0 (by decide) (by decide)]; exact a6, c1, e1, tok_jn (T := Td T 0) a9 hn hk hw ho ht⟩
theorem zs_105 {N d p k w o t : Nat} {z : ZZ} {T : Tw} {μ ν : ZM} (hN : 300 ≤ N) (b : zbase z) (hd : d < 2 ^ 31) (hk : k ≤ 4) (hw : w ≤ 99) (ho : o ≤ 99) (ht : t ≤ 19) (hn : tn T < 7) (h : zt z d p T μ ν) : zo z d T (f_X2_readCouple_J105 N 95 98 (nI k) (nI w) (nI o) (nI t) μ) (f_X5_readCouple_J149 N 0 (nI k) (nI w) (nI o) (nI t) ν) := by
  obtain ⟨x, p1, μ1, ν1, f1, g1, h1, _⟩ := zs_takes (c := 120) hN b (by omega) h
  have f1 : f_X2_takes N 95 120 μ = _ := f1
  have g1 : f_X5_takes N 0 120 ν = _ := g1
  have l0 : ((0 : Int32) ≤ nI t) = True := eq_true (nI_le (a := 0) (by omega) (by omega))
  have w0 : ν.1 0 12 = 0 := h.2.2.2.2.2.1
  have w1 : ν1.1 0 12 = 0 := h1.2.2.2.2.2.1
  unfold f_X2_readCouple_J105 f_X5_readCouple_J149 f_X5_readCouple_J171 f_X5_readCouple_J172
  simp only [l0, if_true, f1, g1, Option.bind_some, w0, w1, not_true_eq_false, if_false, Nat.zero_add]
  cases x with
  | false =>
    obtain ⟨μ2, ν2, f2, g2, h2⟩ := zs_join (N := N) (x := true) hd hk hw ho ht hn h1
    have f2 : f_X3_settle N 98 (nI k) (nI w) (nI o) (nI t) 1 μ1 = some (nI (tn T), μ2) := f2
    have g2 : f_X5_join N 2 (nI k) (nI w) (nI o) (nI t) 0 ν1 = some ν2 := g2
    simp only [Bool.false_eq_true, if_false, not_true_eq_false, if_true, w1, f2, g2, Option.bind_some, zp_z1]
    exact Or.inl ⟨p1, _, μ2, ν2, rfl, rfl, h2, rfl, rfl⟩
  | true =>
    obtain ⟨μ2, ν2, f2, g2, h2⟩ := zs_join (N := N) (x := false) hd hk hw ho ht hn h1
    have f2 : f_X3_settle N 98 (nI k) (nI w) (nI o) (nI t) 0 μ1 = some (nI (tn T), μ2) := f2
    have g2 : f_X5_join N 2 (nI k) (nI w) (nI o) (nI t) 1 ν1 = some ν2 := g2
    simp only [if_true, zt10, not_false_eq_true, if_false, not_true_eq_false, w1, f2, g2, Option.bind_some, zp_z1]
    exact Or.inl ⟨p1, _, μ2, ν2, rfl, rfl, h2, rfl, rfl⟩
theorem zs_105s {N d q k w o t : Nat} {z : ZZ} {T : Tw} {μ ν : ZM} (hN : 300 ≤ N) (b : zbase z) (hk : k ≤ 4) (hw : w ≤ 99) (ho : o ≤ 99) (ht : t ≤ 19) (hn : tn T < 7) (h : zst z q T μ ν) : zo z d T (f_X2_readCouple_J105 N 95 98 (nI k) (nI w) (nI o) (nI t) μ) (some ν) := by
  have f1 : f_X2_takes N 95 120 μ = some (0, μ) := h.tk (c := 120) hN b (by omega) (by omega)
  obtain ⟨a1, a2, a3, a4, a5, a6, a7, a8, a9⟩ := h
  have l0 : ((0 : Int32) ≤ nI t) = True := eq_true (nI_le (a := 0) (by omega) (by omega))
  obtain ⟨μ2, f2, c2, r2⟩ := zp_settle (N := N) (k := k) (w := w) (o := o) (t := t) (b := true) a7 a8.2.1 hn
  have f2 : f_X3_settle N 98 (nI k) (nI w) (nI o) (nI t) 1 μ = some (nI (tn T), μ2) := f2
  unfold f_X2_readCouple_J105
  simp only [l0, if_true, f1, Option.bind_some, not_true_eq_false, if_false, f2, zp_z1]
  exact Or.inr (Or.inr ⟨q, _, μ2, ν, rfl, rfl, a1.fr r2, a2, by rw [r2.1 95 (by omega)]; exact a3, a4, a5, a6, c2, tok_jn (T := Td T 0) (b := true) a8 hn hk hw ho ht, a9⟩)
theorem zs_76 {N d p k w o : Nat} {z : ZZ} {T : Tw} {μ ν : ZM} (hN : 300 ≤ N) (b : zbase z) (hd : d < 2 ^ 31) (hk : k ≤ 4) (hw : w ≤ 99) (ho : o ≤ 99) (hn : tn T < 7) (h : zt z d p T μ ν) : zo z d T (f_X2_readCouple_J76 N 95 98 (nI k) (nI w) (nI o) μ) (f_X5_readCouple_J120 N 0 (nI k) (nI w) (nI o) ν) := by
  obtain ⟨x, p1, μ1, ν1, f1, g1, h1, _⟩ := zs_takes (c := 126) hN b (by omega) h
  have f1 : f_X2_takes N 95 126 μ = _ := f1
  have g1 : f_X5_takes N 0 126 ν = _ := g1
  have l0 : ((0 : Int32) ≤ nI o) = True := eq_true (nI_le (a := 0) (by omega) (by omega))
  have w0 : ν.1 0 12 = 0 := h.2.2.2.2.2.1
  unfold f_X2_readCouple_J76 f_X5_readCouple_J120 f_X5_readCouple_J148
  simp only [l0, if_true, f1, g1, Option.bind_some, w0, not_true_eq_false, if_false]
  cases x with
  | false =>
    simp only [Bool.false_eq_true, if_false, if_true]
    exact zs_105 (t := 0) hN b hd hk hw ho (by omega) hn h1
  | true =>
    simp only [if_true, zt10, if_false]
    have hq := zs_number (lo := 0) (hi := 19) hN b (by omega) (by omega) h1
    have hq : zo3 z 0 19 d T (f_X2_readNumber N 95 0 19 μ1) (f_X5_number N 0 0 19 ν1) := hq
    rcases hq with ⟨v, p2, μ2, ν2, v1, v2, f2, g2, h2⟩ | ⟨q, y, μ2, ν2, f2, g2, h2⟩ | ⟨v, q, y, μ2, ν2, v1, v2, f2, g2, h2⟩
    · simp only [f2, g2, Option.bind_some]
      exact zs_105 hN b hd hk hw ho v2 hn h2
    · simp only [f2, g2, Option.bind_some, zq_149w h2.2.2.2.1]
      unfold f_X2_readCouple_J105
      rw [if_neg (show ¬ (0 : Int32) ≤ -1 by decide), zp_z0]
      exact Or.inr (Or.inl ⟨q, μ2, ν2, rfl, rfl, h2⟩)
    · simp only [f2, g2, Option.bind_some, zq_149w h2.2.2.2.2.2.2.2.2.1]
      exact zs_105s hN b hk hw ho v2 hn h2
theorem zs_76s {N d q k w o : Nat} {z : ZZ} {T : Tw} {μ ν : ZM} (hN : 300 ≤ N) (b : zbase z) (hk : k ≤ 4) (hw : w ≤ 99) (ho : o ≤ 99) (hn : tn T < 7) (h : zst z q T μ ν) : zo z d T (f_X2_readCouple_J76 N 95 98 (nI k) (nI w) (nI o) μ) (some ν) := by
  have f1 : f_X2_takes N 95 126 μ = some (0, μ) := h.tk (c := 126) hN b (by omega) (by omega)
  have l0 : ((0 : Int32) ≤ nI o) = True := eq_true (nI_le (a := 0) (by omega) (by omega))
  unfold f_X2_readCouple_J76
  simp only [l0, if_true, f1, Option.bind_some]
  exact zs_105s (t := 0) hN b hk hw ho (by omega) hn h
/-- from the kind on -/
theorem zs_rc {N d p k : Nat} {z : ZZ} {T : Tw} {μ ν : ZM} (hN : 300 ≤ N) (b : zbase z) (hd : d < 2 ^ 31) (hk : k ≤ 4) (hn : tn T < 7) (hp : p < zzn z) (h : zt z d p T μ ν) : zo z d T ((f_X2_readNumber N 95 0 80 (zk_si μ 95 2 (nI (p + 1)))).bind fun r5 =>
    if 0 ≤ r5.1 then
      (f_X2_takes N 95 64 r5.2).bind fun r6 =>
      if r6.1 = 0 then
        f_X2_readCouple_J76 N 95 98 (nI k) r5.1 40 r6.2
      else
        (f_X2_readNumber N 95 20 99 r6.2).bind fun r7 =>
        f_X2_readCouple_J76 N 95 98 (nI k) r5.1 r7.1 r7.2
    else
      zk_zr 0 r5.2) (f_X5_readCouple_J57 N 0 (nI k) ν) := by
  have a4 : ν.1 0 11 = nI p := h.2.2.2.1
  have t1 := h.to (p' := p + 1) (by omega)
  have l4 : (nI k = -4) = False := eq_false (fun q => nI_pos (show k < 2 ^ 31 by omega) (by rw [q]; decide))
  unfold f_X5_readCouple_J57 f_X5_readCouple_J118
  simp only [l4, not_false_eq_true, if_true, a4, nI_1]
  have hq := zs_number (lo := 0) (hi := 80) hN b (by omega) (by omega) t1
  have hq : zo3 z 0 80 d T (f_X2_readNumber N 95 0 80 (zk_si μ 95 2 (nI (p + 1)))) (f_X5_number N 0 0 80 (zk_si ν 0 11 (nI (p + 1)))) := hq
  rcases hq with ⟨v, p2, μ2, ν2, v1, v2, f2, g2, h2⟩ | ⟨q, y, μ2, ν2, f2, g2, h2⟩ | ⟨v, q, y, μ2, ν2, v1, v2, f2, g2, h2⟩
  · have l0 : ((0 : Int32) ≤ nI v) = True := eq_true (nI_le (a := 0) (by omega) (by omega))
    have w0 : ν2.1 0 12 = 0 := h2.2.2.2.2.2.1
    obtain ⟨x, p3, μ3, ν3, f3, g3, h3, _⟩ := zs_takes (c := 64) hN b (by omega) h2
    have f3 : f_X2_takes N 95 64 μ2 = _ := f3
    have g3 : f_X5_takes N 0 64 ν2 = _ := g3
    simp only [f2, g2, Option.bind_some, l0, if_true, w0, not_true_eq_false, if_false, f3, g3]
    cases x with
    | false =>
      simp only [Bool.false_eq_true, if_false, if_true]
      exact zs_76 (o := 40) hN b hd hk (by omega) (by omega) hn h3
    | true =>
      simp only [if_true, zt10, if_false]
      have hq := zs_number (lo := 20) (hi := 99) hN b (by omega) (by omega) h3
      have hq : zo3 z 20 99 d T (f_X2_readNumber N 95 20 99 μ3) (f_X5_number N 0 20 99 ν3) := hq
      rcases hq with ⟨o, p4, μ4, ν4, o1, o2, f4, g4, h4⟩ | ⟨q, y, μ4, ν4, f4, g4, h4⟩ | ⟨o, q, y, μ4, ν4, o1, o2, f4, g4, h4⟩
      · simp only [f4, g4, Option.bind_some]
        exact zs_76 hN b hd hk (by omega) (by omega) hn h4
      · simp only [f4, g4, Option.bind_some, zq_120w h4.2.2.2.1]
        unfold f_X2_readCouple_J76
        rw [if_neg (show ¬ (0 : Int32) ≤ -1 by decide), zp_z0]
        exact Or.inr (Or.inl ⟨q, μ4, ν4, rfl, rfl, h4⟩)
      · simp only [f4, g4, Option.bind_some, zq_120w h4.2.2.2.2.2.2.2.2.1]
        exact zs_76s hN b hk (by omega) (by omega) hn h4
  · have l0 : ((0 : Int32) ≤ -1) = False := eq_false (by decide)
    simp only [f2, g2, Option.bind_some, l0, if_false, h2.2.2.2.1, zt10, not_false_eq_true, if_true, zq_120w h2.2.2.2.1, zp_z0]
    exact Or.inr (Or.inl ⟨q, μ2, ν2, rfl, rfl, h2⟩)
  · have l0 : ((0 : Int32) ≤ nI v) = True := eq_true (nI_le (a := 0) (by omega) (by omega))
    have w0 : ν2.1 0 12 = 1 := h2.2.2.2.2.2.2.2.2.1
    have f3 : f_X2_takes N 95 64 μ2 = some (0, μ2) := h2.tk (c := 64) hN b (by omega) (by omega)
    simp only [f2, g2, Option.bind_some, l0, if_true, w0, zt10, not_false_eq_true, f3, zq_120w w0]
    exact zs_76s (o := 40) hN b hk (by omega) (by omega) hn h2
theorem zs_couple {N d p : Nat} {z : ZZ} {T : Tw} {μ ν : ZM} (hN : 300 ≤ N) (b : zbase z) (hd : d < 2 ^ 31) (hn : tn T < 7) (h : zt z d p T μ ν) : zo z d T (f_X2_readCouple N 95 98 μ) (f_X5_readCouple N 0 ν) := by
  obtain ⟨p1, μ1, ν1, f1, g1, h1, n1⟩ := zs_skip hN b h
  obtain ⟨a1, a2, a3, a4, a5, a6, a7, a8, a9⟩ := id h1
  have hz := b.1
  unfold f_X2_readCouple f_X5_readCouple
  simp only [f1, g1, Option.bind_some, a3, zp_let b a1 (show p1 < 2 ^ 31 by omega)]
  have no : zlt z p1 ≠ 98 → zlt z p1 ≠ 100 → zlt z p1 ≠ 108 → zlt z p1 ≠ 112 → zlt z p1 ≠ 115 → f_X2_kindOf N (zlt z p1) μ1 = some (-1, μ1) := by
    intro n1 n2 n3 n4 n5
    unfold f_X2_kindOf
    rw [if_neg n1, if_neg n2, if_neg n3, if_neg n4, if_neg n5]
  have l0 : ((0 : Int32) ≤ -1) = False := eq_false (by decide)
  have w57 : f_X5_readCouple_J57 N 0 (-4) ν1 = some (zk_si (zk_si ν1 0 13 (nI p1)) 0 12 1) := by
    unfold f_X5_readCouple_J57
    simp only [not_true_eq_false, if_false, a4, zq_wrong (N := N) (x := nI p1) a6, Option.bind_some]
  by_cases e : p1 < zzn z
  · obtain ⟨_, _, b1, b2⟩ := b.2.2.2 p1 e
    have q1 : zlt z p1 = nI (zzl z p1) := if_pos e
    have q2 : zlq z p1 = nI (zzl z p1) := if_pos e
    have ne : ∀ c : Nat, c < 127 → zzl z p1 ≠ c → ¬ nI (zzl z p1) = nI c := fun c hc hne q => hne ((nI_eq (by omega) (by omega)).mp q)
    have fin : ∀ k : Nat, k ≤ 4 → zo z d T (if (0 : Int32) ≤ nI k then (f_X2_readNumber N 95 0 80 (zk_si μ1 95 2 (nI (p1 + 1)))).bind fun r5 =>
        if 0 ≤ r5.1 then
          (f_X2_takes N 95 64 r5.2).bind fun r6 =>
          if r6.1 = 0 then
            f_X2_readCouple_J76 N 95 98 (nI k) r5.1 40 r6.2
          else
            (f_X2_readNumber N 95 20 99 r6.2).bind fun r7 =>
            f_X2_readCouple_J76 N 95 98 (nI k) r5.1 r7.1 r7.2
        else
          zk_zr 0 r5.2 else zk_zr 0 (zk_si μ1 95 3 (nI p1))) (f_X5_readCouple_J57 N 0 (nI k) ν1) := by
      intro k hk
      rw [if_pos (show (0 : Int32) ≤ nI k from nI_le (a := 0) (by omega) (by omega))]
      exact zs_rc hN b hd hk hn e h1
    by_cases c1 : zzl z p1 = 112
    · have k1 : f_X2_kindOf N (zlt z p1) μ1 = some (nI 0, μ1) := by rw [q1, c1]; rfl
      have m1 : (zlq z p1 = 112) = True := eq_true (by rw [q2, c1]; rfl)
      simp only [k1, Option.bind_some, m1, not_true_eq_false, if_false, a3, nI_1]
      exact fin 0 (by omega)
    have m1 : (zlq z p1 = 112) = False := eq_false (by rw [q2]; exact ne 112 (by omega) c1)
    by_cases c2 : zzl z p1 = 100
    · have k1 : f_X2_kindOf N (zlt z p1) μ1 = some (nI 1, μ1) := by rw [q1, c2]; rfl
      have m2 : (zlq z p1 = 100) = True := eq_true (by rw [q2, c2]; rfl)
      simp only [k1, Option.bind_some, m1, m2, not_true_eq_false, not_false_eq_true, if_true, if_false, a3, nI_1]
      exact fin 1 (by omega)
    have m2 : (zlq z p1 = 100) = False := eq_false (by rw [q2]; exact ne 100 (by omega) c2)
    by_cases c3 : zzl z p1 = 115
    · have k1 : f_X2_kindOf N (zlt z p1) μ1 = some (nI 2, μ1) := by rw [q1, c3]; rfl
      have m3 : (zlq z p1 = 115) = True := eq_true (by rw [q2, c3]; rfl)
      simp only [k1, Option.bind_some, m1, m2, m3, not_true_eq_false, not_false_eq_true, if_true, if_false, a3, nI_1]
      exact fin 2 (by omega)
    have m3 : (zlq z p1 = 115) = False := eq_false (by rw [q2]; exact ne 115 (by omega) c3)
    by_cases c4 : zzl z p1 = 108
    · have k1 : f_X2_kindOf N (zlt z p1) μ1 = some (nI 3, μ1) := by rw [q1, c4]; rfl
      have m4 : (zlq z p1 = 108) = True := eq_true (by rw [q2, c4]; rfl)
      simp only [k1, Option.bind_some, m1, m2, m3, m4, not_true_eq_false, not_false_eq_true, if_true, if_false, a3, nI_1]
      exact fin 3 (by omega)
    have m4 : (zlq z p1 = 108) = False := eq_false (by rw [q2]; exact ne 108 (by omega) c4)
    by_cases c5 : zzl z p1 = 98
    · have k1 : f_X2_kindOf N (zlt z p1) μ1 = some (nI 4, μ1) := by rw [q1, c5]; rfl
      have m5 : (zlq z p1 = 98) = True := eq_true (by rw [q2, c5]; rfl)
      simp only [k1, Option.bind_some, m1, m2, m3, m4, m5, not_true_eq_false, not_false_eq_true, if_true, if_false, a3, nI_1]
      exact fin 4 (by omega)
    have m5 : (zlq z p1 = 98) = False := eq_false (by rw [q2]; exact ne 98 (by omega) c5)
    have k1 := no (by rw [q1]; exact ne 98 (by omega) c5) (by rw [q1]; exact ne 100 (by omega) c2) (by rw [q1]; exact ne 108 (by omega) c4) (by rw [q1]; exact ne 112 (by omega) c1) (by rw [q1]; exact ne 115 (by omega) c3)
    simp only [k1, Option.bind_some, m1, m2, m3, m4, m5, not_false_eq_true, if_true, l0, if_false, a3, w57, zp_z0]
    exact Or.inr (Or.inl ⟨p1, _, _, rfl, rfl, h1.fl⟩)
  · have q1 : zlt z p1 = -1 := if_neg e
    have q2 : zlq z p1 = -4 := if_neg e
    have k1 := no (by rw [q1]; decide) (by rw [q1]; decide) (by rw [q1]; decide) (by rw [q1]; decide) (by rw [q1]; decide)
    have m1 : (zlq z p1 = 112) = False := eq_false (by rw [q2]; decide)
    have m2 : (zlq z p1 = 100) = False := eq_false (by rw [q2]; decide)
    have m3 : (zlq z p1 = 115) = False := eq_false (by rw [q2]; decide)
    have m4 : (zlq z p1 = 108) = False := eq_false (by rw [q2]; decide)
    have m5 : (zlq z p1 = 98) = False := eq_false (by rw [q2]; decide)
    simp only [k1, Option.bind_some, m1, m2, m3, m4, m5, not_false_eq_true, if_true, l0, if_false, a3, w57, zp_z0]
    exact Or.inr (Or.inl ⟨p1, _, _, rfl, rfl, h1.fl⟩)
