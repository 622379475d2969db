-- rivals
def zsub (g m : Nat) : Nat := g - (g &&& m)
theorem zsub_e : ∀ g, g < 128 → ∀ m, m < 128 → nI g &&& (nI m ^^^ (-1)) = nI (zsub g m) := by decide +kernel
theorem zsub_q : ∀ n, n < 8 → ∀ g, g < 2 ^ n → ∀ m, m < 2 ^ n → nI (2 ^ n - 1 - g) ||| nI m = nI (2 ^ n - 1 - zsub g m) := by decide +kernel
theorem pass_bit {T : Tw} {c : Nat} (hT : tok T) (hc : c < 7) (h : (tg T).testBit c = false) : (tg (pass T)).testBit c = false := by
  show (gz T (tn T)).testBit c = false
  rw [gz_bit (tok_g hT) (tn T) hT.1 c hc, h]
  rfl
theorem passN_bit {c : Nat} (hc : c < 7) : ∀ (k : Nat) {T : Tw}, tok T → (tg T).testBit c = false → (tg (passN T k)).testBit c = false
  | 0, _, _, h => h
  | k + 1, _, hT, h => passN_bit hc k (tok_pass hT) (pass_bit hT hc h)
theorem kp_not {T : Tw} {c : Nat} (hT : tok T) (hc : c < 7) (h : (tg T).testBit c = false) : ¬ zp_cd (kp T) = nI c := by
  intro q
  have := (zp_cd_eq hc (fun k hk => by have := (kp_lt hk).1; have := hT.1; omega)).mp q.symm
  have := (kp_lt this).2
  rw [h] at this
  cases this
theorem zl_without_L {N c n : Nat} (hN : 8 ≤ N) (hc7 : c < 7) (hn : n ≤ 40) : ∀ (f y : Nat) (μ : ZM) (T : Tw), n < y + f → y ≤ n → CT μ 98 T → tok T → ty T + (n - y) < 2 ^ 30 → ∃ μ', f_X4_keepsWithout_L29 N f 0 (nI c) (nI n) (nI y) μ = some (if zp_cd (kp (passN T (n - y))) = nI c then 1 else 0, μ') ∧ zp_Fr 98 μ μ'
  | 0, y, μ, T, hf, hm, hc, hT, hy => absurd hf (by omega)
  | f + 1, y, μ, T, hf, hm, hc, hT, hy => by
    unfold f_X4_keepsWithout_L29
    by_cases hin : y < n
    · have hl : (nI n ≤ nI y) = False := eq_false (nI_ge hin (by omega))
      have q1 := zp_isT (N := N) hc (tok_g hT) hc7
      by_cases hb : (tg T).testBit c = true
      · obtain ⟨μ1, f1, c1, r1⟩ := zp_pass hN hc hT (by omega)
        simp only [Nat.zero_add, hl, if_false, Option.bind_some, nI_1, q1, hb, if_true, zt10, f1]
        obtain ⟨μ', a1, a2⟩ := zl_without_L hN hc7 hn f (y + 1) μ1 (pass T) (by omega) (by omega) c1 (tok_pass hT) (by show ty T + 1 + _ < _; omega)
        refine ⟨μ', ?_, r1.tr a2⟩
        rw [a1, show n - y = (n - (y + 1)) + 1 by omega]
        rfl
      · have hb' : (tg T).testBit c = false := by simpa using hb
        simp only [Nat.zero_add, hl, if_false, Option.bind_some, q1, hb, if_true, zp_keeper hN hc hT, kp_not hT hc7 hb', kp_not (tok_passN (n - y) hT) hc7 (passN_bit hc7 (n - y) hT hb'), not_false_eq_true, zp_z0, Bool.false_eq_true]
        exact ⟨μ, rfl, zp_Fr.rf⟩
    · have e : y = n := by omega
      subst e
      have hl : (nI y ≤ nI y) = True := eq_true (nI_le (by omega) (by omega))
      simp only [Nat.zero_add, hl, if_true, Option.bind_some, zp_keeper hN hc hT, Nat.sub_self]
      show ∃ μ', _ = some (if zp_cd (kp T) = nI c then 1 else 0, μ') ∧ _
      by_cases hk : zp_cd (kp T) = nI c
      · simp only [hk, not_true_eq_false, if_false, if_true, zp_z1]
        exact ⟨μ, rfl, zp_Fr.rf⟩
      · simp only [hk, not_false_eq_true, if_true, if_false, zp_z0]
        exact ⟨μ, rfl, zp_Fr.rf⟩
def zriv (w : Int32) (o : Option Nat) : Int32 := match o with
  | none => -4
  | some b => if w = 1 then nI b else nI (pcn b)
theorem zl_try {N c n m : Nat} {T : Tw} (hN : 300 ≤ N) (hT : tok T) (hy : ty T ≤ 9999) (hc7 : c < tn T) (hn : n ≤ 40) (hm : m < 2 ^ tn T) {μ ν : ZM} (hc : CT μ 1 T) (hr : RT ν 1 0 T) : ∃ μ' ν1 ν2 ν', f_X4_keepsWithout N 0 (nI m) (nI c) (nI n) μ = some (if zp_cd (kp (passN (Tg T (zsub (tg T) m)) n)) = nI c then 1 else 0, μ') ∧ zp_Fr 98 μ μ' ∧ f_X5_take N 0 ν = some ν1 ∧ ν1.1 2 2 = nI (2 ^ tn T - 1 - tg T) ∧ f_X5_goOn N 0 (nI n) (zk_si ν1 2 2 (nI (2 ^ tn T - 1 - zsub (tg T) m))) = some ν2 ∧ f_X5_keysOf N 2 ν2 = some (zp_cd (kp (passN (Tg T (zsub (tg T) m)) n)), ν') ∧ zq_Fr 2 ν ν' := by
  have h7 := hT.1
  have hg := tok_g hT
  have hs : zsub (tg T) m < 2 ^ tn T := Nat.lt_of_le_of_lt (Nat.sub_le _ _) hT.2.1
  have hT1 : tok (Tg T (zsub (tg T) m)) := tok_gg hT hs
  have m128 : m < 128 := Nat.lt_of_lt_of_le hm (Nat.pow_le_pow_right (by omega) h7)
  obtain ⟨μ1, f1, c1, r1⟩ := zp_become (N := N) (a := 98) (b := 1) hc hT.1 (by omega)
  obtain ⟨μ2, f2, r2⟩ := zl_without_L (N := N) (c := c) (n := n) (by omega) (by omega) hn N 0 _ _ (by omega) (by omega) (c1.g (zsub (tg T) m)) hT1 (show ty T + _ < _ by omega)
  obtain ⟨ν1, g1, d1, s1⟩ := zq_take (N := N) (by omega) hr hT
  obtain ⟨ν2, g2, d2, s2⟩ := zq_goOn (N := N) hN (n := n) (by omega) (d1.g (zsub (tg T) m)) hT1 (show ty T < 2 ^ 20 by omega)
  refine ⟨μ2, ν1, ν2, ν2, ?_, r1.tr ((zp_Fr.si (by omega) (by omega)).tr r2), g1, d1.2.2.1, g2, zq_keys (by omega) d2 (tok_passN n hT1), s1.tr (zq_Fr.si.tr s2)⟩
  unfold f_X4_keepsWithout
  simp only [Nat.zero_add, f1, Option.bind_some, c1.2.1, zsub_e (tg T) hg m m128]
  exact f2
theorem zl_rivals_L {N c n o : Nat} {w : Int32} {T : Tw} (hN : 300 ≤ N) (hT : tok T) (hy : ty T ≤ 9999) (hc7 : c < tn T) (hn : n ≤ 40) (ho : o < 2 ^ tn T) : ∀ (f m : Nat) (b : Option Nat) (μ ν : ZM), o + 1 < m + f → m ≤ o + 1 → (∀ k, b = some k → k < 128) → CT μ 1 T → RT ν 1 0 T → ∃ (v : Option Nat) (μ' ν' : ZM), (∀ k, v = some k → k < 128) ∧ f_X4_fewestRivals_L35 N f 0 (nI c) (nI n) (nI o) (zp_cd b) (nI m) μ = some (zp_cd v, μ') ∧ f_X5_rivals_L51 N f 0 (nI c) (nI n) w (nI o) (zp_cd b) (nI m) ν = some (zriv w v, ν') ∧ zp_Fr 98 μ μ' ∧ zq_Fr 2 ν ν'
  | 0, m, b, μ, ν, hf, hm, hb, hc, hr => absurd hf (by omega)
  | f + 1, m, b, μ, ν, hf, hm, hb, hc, hr => by
    unfold f_X4_fewestRivals_L35 f_X5_rivals_L51
    have h7 := hT.1
    have o128 : o < 128 := Nat.lt_of_lt_of_le ho (Nat.pow_le_pow_right (by omega) h7)
    by_cases hin : m ≤ o
    · have hl : (nI o < nI m) = False := eq_false (nI_nlt hin (by omega))
      have skip : ∃ (v : Option Nat) (μ' ν' : ZM), (∀ k, v = some k → k < 128) ∧ f_X4_fewestRivals_L35 N f 0 (nI c) (nI n) (nI o) (zp_cd b) (nI (m + 1)) μ = some (zp_cd v, μ') ∧ f_X5_rivals_L51 N f 0 (nI c) (nI n) w (nI o) (zp_cd b) (nI (m + 1)) ν = some (zriv w v, ν') ∧ zp_Fr 98 μ μ' ∧ zq_Fr 2 ν ν' := zl_rivals_L hN hT hy hc7 hn ho f (m + 1) b μ ν (by omega) (by omega) hb hc hr
      have m128 : m < 128 := by omega
      simp only [hl, if_false, nI_1, Nat.zero_add]
      by_cases hopen : nI m &&& (nI o ^^^ (-1)) = 0
      · simp only [hopen, not_true_eq_false, if_false, zt10, if_true]
        obtain ⟨μ1, ν1, ν2, ν3, f1, F, g1, d1, g2, g3, G⟩ := zl_try (m := m) hN hT hy hc7 hn (by omega) hc hr
        have go : ∃ (v : Option Nat) (μ' ν' : ZM), (∀ k, v = some k → k < 128) ∧ (if (if zp_cd (kp (passN (Tg T (zsub (tg T) m)) n)) = nI c then (1 : Int32) else 0) = 0 then f_X4_fewestRivals_L35 N f 0 (nI c) (nI n) (nI o) (zp_cd b) (nI (m + 1)) μ1 else f_X4_fewestRivals_L35 N f 0 (nI c) (nI n) (nI o) (nI m) (nI (m + 1)) μ1) = some (zp_cd v, μ') ∧ (if ¬ zp_cd (kp (passN (Tg T (zsub (tg T) m)) n)) = nI c then f_X5_rivals_L51 N f 0 (nI c) (nI n) w (nI o) (zp_cd b) (nI (m + 1)) ν3 else f_X5_rivals_L51 N f 0 (nI c) (nI n) w (nI o) (nI m) (nI (m + 1)) ν3) = some (zriv w v, ν') ∧ zp_Fr 98 μ μ' ∧ zq_Fr 2 ν ν' := by
          by_cases hk : zp_cd (kp (passN (Tg T (zsub (tg T) m)) n)) = nI c
          · simp only [hk, if_true, zt10, if_false, not_true_eq_false]
            obtain ⟨v, μ', ν', a0, a1, a2, a3, a4⟩ := zl_rivals_L hN hT hy hc7 hn ho f (m + 1) (some m) μ1 ν3 (by omega) (by omega) (fun k hk => by cases hk; omega) (hc.fr F (by omega)) (hr.fr (G.1 1 (by decide) (by decide)))
            exact ⟨v, μ', ν', a0, a1, a2, F.tr a3, G.tr a4⟩
          · simp only [hk, if_true, if_false, not_false_eq_true]
            obtain ⟨v, μ', ν', a0, a1, a2, a3, a4⟩ := zl_rivals_L hN hT hy hc7 hn ho f (m + 1) b μ1 ν3 (by omega) (by omega) hb (hc.fr F (by omega)) (hr.fr (G.1 1 (by decide) (by decide)))
            exact ⟨v, μ', ν', a0, a1, a2, F.tr a3, G.tr a4⟩
        simp only [f1, g1, d1, Option.bind_some, zsub_q (tn T) (by omega) (tg T) hT.2.1 m (by omega), g2, g3]
        cases b with
        | none =>
          have e4 : ((-4 : Int32) < 0) = True := eq_true (by decide)
          simp only [show zp_cd none = (-4 : Int32) from rfl, e4, if_true] at go ⊢
          exact go
        | some k =>
          have hk := hb k rfl
          have ek : (nI k < 0) = False := eq_false (nI_pos (by omega))
          have ek4 : (nI k = -4) = False := eq_false (fun q => nI_pos (show k < 2 ^ 31 by omega) (by rw [q]; decide))
          simp only [show zp_cd (some k) = nI k from rfl] at go skip ⊢
          simp only [ek, ek4, if_false, zp_bits m128, zp_bits hk, zq_bits hN m128, zq_bits hN hk, Option.bind_some]
          by_cases hq : nI (pcn k) ≤ nI (pcn m)
          · simp only [hq, if_true]
            exact skip
          · simp only [hq, if_false, f1, g1, d1, Option.bind_some, zsub_q (tn T) (show tn T < 8 by omega) (tg T) hT.2.1 m (by omega), g2, g3]
            exact go
      · simp only [hopen, not_false_eq_true, if_true, zt10, if_false]
        cases b with
        | none =>
          have e4 : ((-4 : Int32) < 0) = True := eq_true (by decide)
          simp only [show zp_cd none = (-4 : Int32) from rfl, e4, if_true] at skip ⊢
          exact skip
        | some k =>
          have hk := hb k rfl
          have ek : (nI k < 0) = False := eq_false (nI_pos (by omega))
          simp only [show zp_cd (some k) = nI k from rfl] at skip ⊢
          simp only [ek, if_false, zp_bits m128, zp_bits hk, Option.bind_some]
          by_cases hq : nI (pcn k) ≤ nI (pcn m)
          · simp only [hq, if_true]
            exact skip
          · simp only [hq, if_false]
            exact skip
    · have hl : (nI o < nI m) = True := eq_true (nI_lt (by omega) (by omega))
      simp only [hl, if_true]
      cases b with
      | none =>
        simp only [show zp_cd none = (-4 : Int32) from rfl, if_true]
        exact ⟨none, μ, ν, hb, rfl, rfl, zp_Fr.rf, zq_Fr.rf⟩
      | some k =>
        have hk := hb k rfl
        have ek4 : (nI k = -4) = False := eq_false (fun q => nI_pos (show k < 2 ^ 31 by omega) (by rw [q]; decide))
        simp only [show zp_cd (some k) = nI k from rfl, ek4, if_false, zq_bits hN hk, Option.bind_some]
        refine ⟨some k, μ, ν, hb, rfl, ?_, zp_Fr.rf, zq_Fr.rf⟩
        unfold zriv
        by_cases hw : w = 1
        · simp only [hw, not_true_eq_false, if_false, if_true]
        · simp only [hw, not_false_eq_true, if_true, if_false]
theorem zsub_bit0 : ∀ g, g < 128 → ∀ m, m < 128 → (zsub g m) &&& g = zsub g m := by decide +kernel
theorem zsub_bit : ∀ g, g < 128 → ∀ m, m < 128 → ∀ c, c < 7 → g.testBit c = false → (zsub g m).testBit c = false := by
  intro g hg m hm c _ h
  rw [← zsub_bit0 g hg m hm, Nat.testBit_and, h, Bool.and_false]
