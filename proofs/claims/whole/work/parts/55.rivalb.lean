theorem zl_rivno_L {N c n o : Nat} {w : Int32} {T : Tw} (hN : 300 ≤ N) (hT : tok T) (hy : ty T ≤ 9999) (hc7 : c < tn T) (hn : n ≤ 40) (ho : o < 2 ^ tn T) (hb : (tg T).testBit c = false) : ∀ (f m : Nat) (ν : ZM), o + 1 < m + f → m ≤ o + 1 → RT ν 1 0 T → ∃ (ν' : ZM), f_X5_rivals_L51 N f 0 (nI c) (nI n) w (nI o) (-4) (nI m) ν = some (-4, ν') ∧ zq_Fr 2 ν ν'
  | 0, m, ν, hf, hm, hr => absurd hf (by omega)
  | f + 1, m, ν, hf, hm, hr => by
    unfold f_X5_rivals_L51
    have h7 := hT.1
    have o128 : o < 128 := Nat.lt_of_lt_of_le ho (Nat.pow_le_pow_right (by omega) h7)
    by_cases hin : m ≤ o
    · have hl : (nI o < nI m) = False := eq_false (nI_nlt hin (by omega))
      simp only [hl, if_false, nI_1, Nat.zero_add, if_true]
      by_cases hopen : nI m &&& (nI o ^^^ (-1)) = 0
      · have hs : zsub (tg T) m < 2 ^ tn T := Nat.lt_of_le_of_lt (Nat.sub_le _ _) hT.2.1
        have hT1 : tok (Tg T (zsub (tg T) m)) := tok_gg hT hs
        have hb1 : (zsub (tg T) m).testBit c = false := by
          exact zsub_bit _ (tok_g hT) m (by omega) c (by omega) hb
        obtain ⟨ν1, g1, d1, s1⟩ := zq_take (N := N) (by omega) hr hT
        obtain ⟨ν2, g2, d2, s2⟩ := zq_goOn (N := N) hN (n := n) (by omega) (d1.g (zsub (tg T) m)) hT1 (show ty T < 2 ^ 20 by omega)
        have g3 := zq_keys (N := N) (by omega) d2 (tok_passN n hT1)
        have d1' : ν1.1 2 2 = nI (2 ^ tn T - 1 - tg T) := d1.2.2.1
        have G := s1.tr (zq_Fr.si.tr s2)
        simp only [hopen, not_true_eq_false, if_false, g1, d1', Option.bind_some, zsub_q (tn T) (show tn T < 8 by omega) (tg T) hT.2.1 m (by omega), g2, g3, kp_not (tok_passN n hT1) (show c < 7 by omega) (passN_bit (show c < 7 by omega) n hT1 hb1), not_false_eq_true, if_true]
        obtain ⟨ν', a1, a2⟩ := zl_rivno_L (w := w) hN hT hy hc7 hn ho hb f (m + 1) ν2 (by omega) (by omega) (hr.fr (G.1 1 (by decide) (by decide)))
        exact ⟨ν', a1, G.tr a2⟩
      · simp only [hopen, not_false_eq_true, if_true]
        exact zl_rivno_L hN hT hy hc7 hn ho hb f (m + 1) ν (by omega) (by omega) hr
    · have hl : (nI o < nI m) = True := eq_true (nI_lt (by omega) (by omega))
      simp only [hl, if_true]
      exact ⟨ν, rfl, zq_Fr.rf⟩
theorem zl_rivals {N : Nat} (hN : 300 ≤ N) (c a b : Int32) : zl_ok zr_rel (f_X4_rivals N 0 c a b) (f_X5_rivals N 0 c a b) := by
  refine zl_q (fun T μ ν h => ?_)
  obtain ⟨hc, hr, hT, hy⟩ := h
  have h7 := hT.1
  rcases zp_couple (N := N) (x := c) hT with ⟨i, i1, rfl, p1, p2⟩ | ⟨p1, p2⟩
  · rcases zp_in (N := N) (a := 0) (b := 40) (x := a) (by omega) (by omega) with ⟨k, k1, k2, rfl, e1, e2⟩ | ⟨e1, e2⟩
    · have e1 : ∀ μ, f_X4_within N (nI k) 0 40 μ = some (1, μ) := e1
      have e2 : ∀ μ, f_X5_in N (nI k) 0 40 μ = some (1, μ) := e2
      rcases zp_in (N := N) (a := 0) (b := 1) (x := b) (by omega) (by omega) with ⟨j, j1, j2, rfl, e3, e4⟩ | ⟨e3, e4⟩
      · have e3 : ∀ μ, f_X4_within N (nI j) 0 1 μ = some (1, μ) := e3
        have e4 : ∀ μ, f_X5_in N (nI j) 0 1 μ = some (1, μ) := e4
        have q1 := zp_isT (N := N) hc (tok_g hT) (show i < 7 by omega)
        have ho : zp_clr (tg T) i < 2 ^ tn T := zp_clr_lt hT.2.1
        have o128 : zp_clr (tg T) i < 128 := zp_clr_lt (tok_g hT)
        have eo := zp_clr_e (tg T) (tok_g hT) i (by omega)
        by_cases hb : (tg T).testBit i = true
        · obtain ⟨v, μ', ν', a0, a1, a2, a3, a4⟩ := zl_rivals_L (n := k) (w := nI j) hN hT hy i1 (by omega) ho N 0 none μ ν (by omega) (by omega) (fun k hk => by cases hk) hc hr
          have a1 : f_X4_fewestRivals_L35 N N 0 (nI i) (nI k) (nI (zp_clr (tg T) i)) (-4) 0 μ = some (zp_cd v, μ') := a1
          refine ⟨zriv (nI j) v, μ', ν', ?_, ?_, a3, a4⟩
          · unfold f_X4_rivals f_X4_fewestRivals
            simp only [p1 μ hc, e1, e3, Option.bind_some, Nat.zero_add, q1, hb, if_true, if_false, zt10, not_false_eq_true, hc.2.1, eo, a1]
            cases v with
            | none => rfl
            | some q =>
              have hq := a0 q rfl
              have e0 : ((0 : Int32) ≤ nI q) = True := eq_true (nI_le (a := 0) (Nat.zero_le _) (by omega))
              simp only [show zp_cd (some q) = nI q from rfl, e0, if_true, zp_bits hq, Option.bind_some]
              have hj : j = 0 ∨ j = 1 := by omega
              rcases hj with rfl | rfl
              · rfl
              · rfl
          · unfold f_X5_rivals
            simp only [p2 ν hr, e2, e4, Option.bind_some, Nat.zero_add, if_true, if_false, zt10, not_false_eq_true, zq_tog hr hT, eo]
            exact a2
        · have hb' : (tg T).testBit i = false := by simpa using hb
          obtain ⟨ν', a1, a2⟩ := zl_rivno_L (n := k) (w := nI j) hN hT hy i1 (by omega) ho hb' N 0 ν (by omega) (by omega) hr
          refine ⟨-4, μ, ν', ?_, ?_, zp_Fr.rf, a2⟩
          · unfold f_X4_rivals f_X4_fewestRivals
            simp only [p1 μ hc, e1, e3, Option.bind_some, Nat.zero_add, q1, hb, if_true, if_false, zt10, not_false_eq_true, not_true_eq_false]
            rfl
          · unfold f_X5_rivals
            simp only [p2 ν hr, e2, e4, Option.bind_some, Nat.zero_add, if_true, if_false, zt10, not_false_eq_true, zq_tog hr hT, eo]
            exact a1
      · have e3 : ∀ μ, f_X4_within N b 0 1 μ = some (0, μ) := e3
        have e4 : ∀ μ, f_X5_in N b 0 1 μ = some (0, μ) := e4
        refine ⟨-1, μ, ν, ?_, ?_, zp_Fr.rf, zq_Fr.rf⟩
        · unfold f_X4_rivals
          simp only [p1 μ hc, e1, e3, Option.bind_some, zt10, not_true_eq_false, if_false]
        · unfold f_X5_rivals
          simp only [p2 ν hr, e2, e4, Option.bind_some, zt10, not_true_eq_false, if_false]
    · have e1 : ∀ μ, f_X4_within N a 0 40 μ = some (0, μ) := e1
      have e2 : ∀ μ, f_X5_in N a 0 40 μ = some (0, μ) := e2
      refine ⟨-1, μ, ν, ?_, ?_, zp_Fr.rf, zq_Fr.rf⟩
      · unfold f_X4_rivals
        simp only [p1 μ hc, e1, Option.bind_some, zt10, if_true, if_false]
      · unfold f_X5_rivals
        simp only [p2 ν hr, e2, Option.bind_some, zt10, if_true, if_false]
  · refine ⟨-1, μ, ν, ?_, ?_, zp_Fr.rf, zq_Fr.rf⟩
    · unfold f_X4_rivals
      simp only [p1 μ hc, Option.bind_some, if_true]
    · unfold f_X5_rivals
      simp only [p2 ν hr, Option.bind_some, if_true]
