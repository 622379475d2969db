-- drift
theorem nI_mulN (a b : Nat) : nI a * nI b = nI (a * b) := (Int32.ofNat_mul a b).symm
theorem nI_divN {a b : Nat} (ha : a < 2 ^ 31) (hb : b < 2 ^ 31) : nI a / nI b = nI (a / b) := (Int32.ofNat_div ha hb).symm
theorem nI_subN {a b : Nat} (h : b ≤ a) : nI a - nI b = nI (a - b) := (Int32.ofNat_sub a b h).symm
theorem nI_remN {a b : Nat} (ha : a < 2 ^ 31) (hb : b < 2 ^ 31) : nI a - nI a / nI b * nI b = nI (a % b) := by
  rw [nI_divN ha hb, nI_mulN, nI_subN (Nat.div_mul_le_self a b)]
  have := Nat.div_add_mod' a b
  congr 1
  omega
def dn (d : Nat) : Nat := (d * 1103515245 + 12345) % 2 ^ 31
theorem dn_lt (d : Nat) : dn d < 2 ^ 31 := Nat.mod_lt _ (by decide)
theorem nI_and31 (x : Nat) : nI x &&& 2147483647 = nI (x % 2 ^ 31) := by
  apply Int32.toBitVec_inj.mp
  apply BitVec.eq_of_toNat_eq
  show (BitVec.ofNat 32 x &&& BitVec.ofNat 32 2147483647).toNat = (BitVec.ofNat 32 (x % 2 ^ 31)).toNat
  rw [BitVec.toNat_and, BitVec.toNat_ofNat, BitVec.toNat_ofNat, BitVec.toNat_ofNat, show 2147483647 % 2 ^ 32 = 2 ^ 31 - 1 by decide, Nat.and_two_pow_sub_one_eq_mod]
  omega
theorem zp_drw (d : Nat) : (nI d * 1103515245 + 12345) &&& 2147483647 = nI (dn d) := by
  rw [show (1103515245 : Int32) = nI 1103515245 from rfl, show (12345 : Int32) = nI 12345 from rfl, nI_mulN, nI_add, nI_and31]
  rfl
theorem zq_drw {d : Nat} (hd : d < 2 ^ 31) : Int64.toInt32 ((((Int32.toInt64 (nI d)) * 1103515245) + 12345) - (((Int32.toInt64 (nI d)) * 1103515245) + 12345) / 2147483648 * 2147483648) = nI (dn d) := by
  rw [nI_l hd, show (1103515245 : Int64) = lN 1103515245 from rfl, show (12345 : Int64) = lN 12345 from rfl, show (2147483648 : Int64) = lN 2147483648 from rfl, lN_mul, lN_add]
  have e : lN (d * 1103515245 + 12345) / lN 2147483648 = lN ((d * 1103515245 + 12345) / 2147483648) := (Int64.ofNat_div (by omega) (by omega)).symm
  rw [e, lN_mul, lN_sub (Nat.div_mul_le_self _ _), lN_i]
  exact congrArg nI (show _ = (d * 1103515245 + 12345) % 2 ^ 31 by omega)
/-- the next draw, told of no more than what both sides do with it -/
theorem zdraw {d : Nat} (hd : d < 2 ^ 31) : ∃ e : Nat, e < 2 ^ 31 ∧ (nI d * 1103515245 + 12345) &&& 2147483647 = nI e ∧ Int64.toInt32 ((((Int32.toInt64 (nI d)) * 1103515245) + 12345) - (((Int32.toInt64 (nI d)) * 1103515245) + 12345) / 2147483648 * 2147483648) = nI e :=
  ⟨dn d, dn_lt d, zp_drw d, zq_drw hd⟩
def drw (e : Nat) (T : Tw) : Tw := if tn T = 0 then Td T e else if (tg T).testBit (e / 65536 % tn T) = true then zwo (Td T e) (e / 65536 % tn T) (tt T (e / 65536 % tn T) + e / 128 % 7) else if e / 128 % 7 = 0 then zanew (Td T e) (e / 65536 % tn T) else Td T e
theorem drw_y (e : Nat) (T : Tw) : ty (drw e T) = ty T := by
  unfold drw zwo
  repeat' split
  all_goals rfl
theorem tok_drw {e : Nat} {T : Tw} (he : e < 2 ^ 31) (hT : tok T) : tok (drw e T) := by
  have hd : tok (Td T e) := tok_d hT he
  unfold drw
  by_cases h0 : tn T = 0
  · rw [if_pos h0]; exact hd
  · have hi : e / 65536 % tn T < tn T := Nat.mod_lt _ (by omega)
    rw [if_neg h0]
    split
    · exact tok_wo hd
    · split
      · exact tok_anew hd hi
      · exact hd
theorem zp_draw {N a e : Nat} {μ : ZM} {T : Tw} (hl : e < 2 ^ 31) (he : (nI (td T) * 1103515245 + 12345) &&& 2147483647 = nI e) (h : CT μ a T) (hT : tok T) : ∃ μ', f_X3_drawNext N a μ = some μ' ∧ CT μ' a (drw e T) ∧ zp_Fr a μ μ' := by
  have h7 := hT.1
  have hd : tok (Td T e) := tok_d hT hl
  have c1 := h.d (e)
  have n1 : (zk_si μ a 7 (nI e)).1 a 4 = nI (tn T) := c1.1
  have d1 : (zk_si μ a 7 (nI e)).1 a 7 = nI e := zp_ss
  have F1 : zp_Fr a μ (zk_si μ a 7 (nI e)) := zp_Fr.si (by omega) (by omega)
  have d0 : μ.1 a 7 = nI (td T) := h.2.2.2.1
  unfold f_X3_drawNext
  simp only [d0, he, n1, d1]
  generalize zk_si μ a 7 (nI e) = μ1 at c1 n1 d1 F1 ⊢
  rw [show (65536 : Int32) = nI 65536 from rfl, show (128 : Int32) = nI 128 from rfl, show (7 : Int32) = nI 7 from rfl, nI_divN hl (show 65536 < 2 ^ 31 by omega), nI_divN hl (show 128 < 2 ^ 31 by omega), nI_remN (show e / 65536 < 2 ^ 31 by omega) (show tn T < 2 ^ 31 by omega), nI_remN (show e / 128 < 2 ^ 31 by omega) (show 7 < 2 ^ 31 by omega)]
  unfold drw
  by_cases h0 : tn T = 0
  · have l0 : ((0 : Int32) < nI (tn T)) = False := eq_false (by rw [h0]; decide)
    rw [if_pos h0]
    simp only [l0, if_false]
    exact ⟨μ1, rfl, c1, F1⟩
  · have hi : e / 65536 % tn T < tn T := Nat.mod_lt _ (by omega)
    have hb7 : e / 128 % 7 < 7 := Nat.mod_lt _ (by omega)
    generalize e / 65536 % tn T = i at hi ⊢
    generalize e / 128 % 7 = b at hb7 ⊢
    have l0 : ((0 : Int32) < nI (tn T)) = True := eq_true (nI_lt (a := 0) (by omega) (by omega))
    have l1 : (nI (tn T) = 0) = False := eq_false (fun q => by
      have := (nI_eq (b := 0) (show tn T < 2 ^ 31 by omega) (by omega)).mp q
      omega)
    have q1 := zp_isT (N := N) c1 (tok_g hd) (show i < 7 by omega)
    rw [if_neg h0]
    simp only [l0, l1, if_true, if_false, q1, Option.bind_some]
    by_cases hb : (tg T).testBit i = true
    · obtain ⟨μ2, f2, c2, r2⟩ := zp_stir (N := N) (n := b) c1 hd hi (by omega)
      simp only [hb, if_true, zt10, if_false, f2, Option.bind_some]
      exact ⟨μ2, rfl, c2, F1.tr r2⟩
    · by_cases hz : b = 0
      · obtain ⟨μ2, f2, c2, r2⟩ := zp_anew (N := N) c1 hd hi
        subst hz
        simp only [hb, if_true, if_false, Bool.false_eq_true, nI_0, not_true_eq_false, f2, Option.bind_some]
        exact ⟨μ2, rfl, c2, F1.tr r2⟩
      · have lz : (nI b = 0) = False := eq_false (fun q => hz ((nI_eq (b := 0) (show b < 2 ^ 31 by omega) (by omega)).mp q))
        simp only [hb, hz, lz, if_true, if_false, Bool.false_eq_true, not_false_eq_true]
        exact ⟨μ1, rfl, c1, F1⟩
theorem zl_drift_L {N n : Nat} (hN : 300 ≤ N) (hn : n ≤ 40) : ∀ (f m : Nat) (μ ν : ZM) (T : Tw), n < m + f → m ≤ n → zd T μ ν → ty T + (n - m) ≤ 9999 → ∃ v μ' ν' T', f_X4_drift_L32 N f 0 (nI n) (nI m) μ = some (v, μ') ∧ f_X5_drift_L31 N f 0 (nI n) (nI m) ν = some (v, ν') ∧ zd T' μ' ν' ∧ zdF μ μ' ∧ zdG ν ν'
  | 0, m, μ, ν, T, hf, hm, hd, hy => absurd hf (by omega)
  | f + 1, m, μ, ν, T, hf, hm, hd, hy => by
    unfold f_X4_drift_L32 f_X5_drift_L31
    by_cases hin : m < n
    · have hl : (nI n ≤ nI m) = False := eq_false (nI_ge hin (by omega))
      obtain ⟨μ1, ν1, f1, g1, d1, F1, G1⟩ := zd_note hN hd
      obtain ⟨hc, hr, hT, hy1⟩ := d1.1
      have h7 := hT.1
      obtain ⟨e, hlt, he1, he2⟩ := zdraw hT.2.2.1
      obtain ⟨μ2, f2, c2, r2⟩ := zp_draw (N := N) hlt he1 hc hT
      have hD := tok_drw hlt hT
      have yD := drw_y e T
      have fin : ∀ ν2, RT ν2 1 0 (drw e T) → zq_Fr 1 ν1 ν2 → ∃ v μ' ν' T', ((f_X3_passYear N 1 μ2).bind fun r4 => f_X4_drift_L32 N f 0 (nI n) (nI (m + 1)) r4) = some (v, μ') ∧ ((f_X5_passOn N 0 1 ν2).bind fun r5 => f_X5_drift_L31 N f 0 (nI n) (nI (m + 1)) r5) = some (v, ν') ∧ zd T' μ' ν' ∧ zdF μ μ' ∧ zdG ν ν' := by
        intro ν2 e2 s2
        obtain ⟨d2, F2, G2⟩ := zd_deed d1 r2 s2 c2 e2 hD (by rw [yD]; exact hy1)
        obtain ⟨μ3, f3, c3, r3⟩ := zp_pass (N := N) (by omega) c2 hD (by rw [yD]; omega)
        obtain ⟨ν3, g3, e3, s3⟩ := zq_pass (N := N) (by omega) (show 1 ≠ 6 by decide) e2 hD (by rw [yD]; omega)
        obtain ⟨d3, F3, G3⟩ := zd_deed d2 r3 s3 c3 e3 (tok_pass hD) (show ty (drw e T) + 1 ≤ 9999 by rw [yD]; omega)
        rw [f3, g3]
        simp only [Option.bind_some]
        obtain ⟨v, μ', ν', T', a1, a2, a3, a4, a5⟩ := zl_drift_L hN hn f (m + 1) μ3 ν3 (pass (drw e T)) (by omega) (by omega) d3 (by show ty (drw e T) + 1 + _ ≤ _; rw [yD]; omega)
        exact ⟨v, μ', ν', T', a1, a2, a3, ((F1.tr F2).tr F3).tr a4, ((G1.tr G2).tr G3).tr a5⟩
      have hd' : tok (Td T e) := tok_d hT hlt
      have c1 := hr.d (e)
      have n1 : (zk_si ν1 1 3 (nI e)).1 1 0 = nI (tn T) := c1.1
      have d0 : ν1.1 1 3 = nI (td T) := hr.2.2.2.1
      have S1 : zq_Fr 1 ν1 (zk_si ν1 1 3 (nI e)) := zq_Fr.si
      have e0 : (zk_si ν1 1 3 (nI e)).1 1 3 = nI e := zp_ss
      simp only [hl, if_false, Nat.zero_add, f1, g1, f2, Option.bind_some, nI_1, d0, he2, n1, e0]
      generalize zk_si ν1 1 3 (nI e) = ν2 at c1 n1 S1 e0 ⊢
      rw [show (65536 : Int32) = nI 65536 from rfl, show (128 : Int32) = nI 128 from rfl, show (7 : Int32) = nI 7 from rfl, nI_divN hlt (show 65536 < 2 ^ 31 by omega), nI_divN hlt (show 128 < 2 ^ 31 by omega), nI_remN (show e / 65536 < 2 ^ 31 by omega) (show tn T < 2 ^ 31 by omega), nI_remN (show e / 128 < 2 ^ 31 by omega) (show 7 < 2 ^ 31 by omega)]
      unfold drw at fin
      by_cases h0 : tn T = 0
      · have l0 : (nI (tn T) ≤ 0) = True := eq_true (by rw [h0]; decide)
        rw [if_pos h0] at fin
        simp only [l0, if_true]
        exact fin ν2 c1 S1
      · have hi : e / 65536 % tn T < tn T := Nat.mod_lt _ (by omega)
        have hb7 : e / 128 % 7 < 7 := Nat.mod_lt _ (by omega)
        rw [if_neg h0] at fin
        generalize e / 65536 % tn T = i at hi fin ⊢
        generalize e / 128 % 7 = b at hb7 fin ⊢
        have l0 : (nI (tn T) ≤ 0) = False := eq_false (nI_ge (a := 0) (by omega) (by omega))
        have l1 : (nI (tn T) = 0) = False := eq_false (fun q => by
          have := (nI_eq (b := 0) (show tn T < 2 ^ 31 by omega) (by omega)).mp q
          omega)
        have q1 := zq_parted (N := N) c1 hd' hi
        simp only [l0, l1, if_false, q1, Option.bind_some]
        by_cases hb : (tg T).testBit i = true
        · obtain ⟨ν3, g3, c3, s3⟩ := zq_stir (N := N) (n := b) c1 hd' hi (by omega)
          rw [if_pos hb] at fin
          simp only [hb, if_true, not_true_eq_false, if_false, g3, Option.bind_some]
          exact fin ν3 c3 (S1.tr s3)
        · rw [if_neg hb] at fin
          by_cases hz : b = 0
          · obtain ⟨ν3, g3, c3, s3⟩ := zq_anew (N := N) c1 hd' hi
            rw [if_pos hz] at fin
            subst hz
            simp only [hb, zt10, if_true, if_false, Bool.false_eq_true, nI_0, not_true_eq_false, not_false_eq_true, g3, Option.bind_some]
            exact fin ν3 c3 (S1.tr s3)
          · have lz : (nI b = 0) = False := eq_false (fun q => hz ((nI_eq (b := 0) (show b < 2 ^ 31 by omega) (by omega)).mp q))
            rw [if_neg hz] at fin
            simp only [hb, zt10, lz, if_true, if_false, Bool.false_eq_true, not_false_eq_true]
            exact fin ν2 c1 S1
    · have hl : (nI n ≤ nI m) = True := eq_true (nI_le (by omega) (by omega))
      obtain ⟨hc, hr, hT, hy1⟩ := hd.1
      simp only [hl, if_true, Nat.zero_add, zp_keeper (show 8 ≤ N by omega) hc hT, zq_keys (show 8 ≤ N by omega) hr hT, Option.bind_some]
      exact ⟨_, μ, ν, T, rfl, rfl, hd, zdF.rf, zdG.rf⟩
theorem zl_drift {N : Nat} (hN : 300 ≤ N) (a : Int32) : zl_ok zr_rel (f_X4_drift N 0 a) (f_X5_drift N 0 a) := by
  intro μ ν hR
  obtain ⟨⟨T, hn⟩, hp, _⟩ := id hR
  obtain ⟨hc, hr, hT, hy⟩ := id hn
  have y1 : μ.1 1 6 = nI (ty T) := hc.2.2.1
  have y2 : ν.1 1 1 = nI (ty T) := hr.2.1
  unfold f_X4_drift f_X5_drift
  rcases zp_in (N := N) (a := 1) (b := 40) (x := a) (by omega) (by omega) with ⟨k, k1, k2, rfl, e1, e2⟩ | ⟨e1, e2⟩
  · have e1 : ∀ μ, f_X4_within N (nI k) 1 40 μ = some (1, μ) := e1
    have e2 : ∀ μ, f_X5_in N (nI k) 1 40 μ = some (1, μ) := e2
    simp only [e1, e2, Option.bind_some, zt10, not_false_eq_true, if_true, Nat.zero_add, y1, y2, nI_add]
    by_cases hk : ty T + k ≤ 9999
    · have hl : (nI (ty T + k) ≤ 9999) = True := eq_true (nI_le (b := 9999) hk (by omega))
      simp only [hl, if_true]
      obtain ⟨v, μ', ν', T', a1, a2, a3, a4, a5⟩ := zl_drift_L (n := k) hN (by omega) N 0 μ ν T (by omega) (by omega) ⟨hn, hp⟩ (by omega)
      exact ⟨v, μ', ν', a1, a2, zd_end hR a3 a4 a5⟩
    · have hl : (nI (ty T + k) ≤ 9999) = False := eq_false (nI_ge (a := 9999) (by omega) (by omega))
      simp only [hl, if_false]
      exact ⟨-3, μ, ν, rfl, rfl, hR⟩
  · have e1 : ∀ μ, f_X4_within N a 1 40 μ = some (0, μ) := e1
    have e2 : ∀ μ, f_X5_in N a 1 40 μ = some (0, μ) := e2
    simp only [e1, e2, Option.bind_some, not_true_eq_false, if_false]
    exact ⟨-1, μ, ν, rfl, rfl, hR⟩
