-- how many: bits
def pcn (g : Nat) : Nat := g % 2 + g / 2 % 2 + g / 4 % 2 + g / 8 % 2 + g / 16 % 2 + g / 32 % 2 + g / 64 % 2
def bcx (x0 : Int32) : Int32 := ((((((((x0 - ((UInt32.toInt32 (Int32.toUInt32 x0 >>> (Int32.toUInt32 1 &&& Int32.toUInt32 31))) &&& 1431655765)) &&& 858993459) + ((UInt32.toInt32 (Int32.toUInt32 (x0 - ((UInt32.toInt32 (Int32.toUInt32 x0 >>> (Int32.toUInt32 1 &&& Int32.toUInt32 31))) &&& 1431655765)) >>> (Int32.toUInt32 2 &&& Int32.toUInt32 31))) &&& 858993459)) + (UInt32.toInt32 (Int32.toUInt32 (((x0 - ((UInt32.toInt32 (Int32.toUInt32 x0 >>> (Int32.toUInt32 1 &&& Int32.toUInt32 31))) &&& 1431655765)) &&& 858993459) + ((UInt32.toInt32 (Int32.toUInt32 (x0 - ((UInt32.toInt32 (Int32.toUInt32 x0 >>> (Int32.toUInt32 1 &&& Int32.toUInt32 31))) &&& 1431655765)) >>> (Int32.toUInt32 2 &&& Int32.toUInt32 31))) &&& 858993459)) >>> (Int32.toUInt32 4 &&& Int32.toUInt32 31)))) &&& 252645135) + (UInt32.toInt32 (Int32.toUInt32 (((((x0 - ((UInt32.toInt32 (Int32.toUInt32 x0 >>> (Int32.toUInt32 1 &&& Int32.toUInt32 31))) &&& 1431655765)) &&& 858993459) + ((UInt32.toInt32 (Int32.toUInt32 (x0 - ((UInt32.toInt32 (Int32.toUInt32 x0 >>> (Int32.toUInt32 1 &&& Int32.toUInt32 31))) &&& 1431655765)) >>> (Int32.toUInt32 2 &&& Int32.toUInt32 31))) &&& 858993459)) + (UInt32.toInt32 (Int32.toUInt32 (((x0 - ((UInt32.toInt32 (Int32.toUInt32 x0 >>> (Int32.toUInt32 1 &&& Int32.toUInt32 31))) &&& 1431655765)) &&& 858993459) + ((UInt32.toInt32 (Int32.toUInt32 (x0 - ((UInt32.toInt32 (Int32.toUInt32 x0 >>> (Int32.toUInt32 1 &&& Int32.toUInt32 31))) &&& 1431655765)) >>> (Int32.toUInt32 2 &&& Int32.toUInt32 31))) &&& 858993459)) >>> (Int32.toUInt32 4 &&& Int32.toUInt32 31)))) &&& 252645135) >>> (Int32.toUInt32 8 &&& Int32.toUInt32 31)))) + (UInt32.toInt32 (Int32.toUInt32 ((((((x0 - ((UInt32.toInt32 (Int32.toUInt32 x0 >>> (Int32.toUInt32 1 &&& Int32.toUInt32 31))) &&& 1431655765)) &&& 858993459) + ((UInt32.toInt32 (Int32.toUInt32 (x0 - ((UInt32.toInt32 (Int32.toUInt32 x0 >>> (Int32.toUInt32 1 &&& Int32.toUInt32 31))) &&& 1431655765)) >>> (Int32.toUInt32 2 &&& Int32.toUInt32 31))) &&& 858993459)) + (UInt32.toInt32 (Int32.toUInt32 (((x0 - ((UInt32.toInt32 (Int32.toUInt32 x0 >>> (Int32.toUInt32 1 &&& Int32.toUInt32 31))) &&& 1431655765)) &&& 858993459) + ((UInt32.toInt32 (Int32.toUInt32 (x0 - ((UInt32.toInt32 (Int32.toUInt32 x0 >>> (Int32.toUInt32 1 &&& Int32.toUInt32 31))) &&& 1431655765)) >>> (Int32.toUInt32 2 &&& Int32.toUInt32 31))) &&& 858993459)) >>> (Int32.toUInt32 4 &&& Int32.toUInt32 31)))) &&& 252645135) + (UInt32.toInt32 (Int32.toUInt32 (((((x0 - ((UInt32.toInt32 (Int32.toUInt32 x0 >>> (Int32.toUInt32 1 &&& Int32.toUInt32 31))) &&& 1431655765)) &&& 858993459) + ((UInt32.toInt32 (Int32.toUInt32 (x0 - ((UInt32.toInt32 (Int32.toUInt32 x0 >>> (Int32.toUInt32 1 &&& Int32.toUInt32 31))) &&& 1431655765)) >>> (Int32.toUInt32 2 &&& Int32.toUInt32 31))) &&& 858993459)) + (UInt32.toInt32 (Int32.toUInt32 (((x0 - ((UInt32.toInt32 (Int32.toUInt32 x0 >>> (Int32.toUInt32 1 &&& Int32.toUInt32 31))) &&& 1431655765)) &&& 858993459) + ((UInt32.toInt32 (Int32.toUInt32 (x0 - ((UInt32.toInt32 (Int32.toUInt32 x0 >>> (Int32.toUInt32 1 &&& Int32.toUInt32 31))) &&& 1431655765)) >>> (Int32.toUInt32 2 &&& Int32.toUInt32 31))) &&& 858993459)) >>> (Int32.toUInt32 4 &&& Int32.toUInt32 31)))) &&& 252645135) >>> (Int32.toUInt32 8 &&& Int32.toUInt32 31)))) >>> (Int32.toUInt32 16 &&& Int32.toUInt32 31)))) &&& 63)
theorem bcx_e : ∀ g, g < 128 → bcx (nI g) = nI (pcn g) := by decide +kernel
theorem zp_bits {N g : Nat} {μ : ZM} (hg : g < 128) : f_J6_bitCount_0f7a4 N (nI g) μ = some (nI (pcn g), μ) := by
  rw [← bcx_e g hg]
  rfl
def bsN : Nat → Int32 → Int32 → Int32 → Option Int32
  | 0, _, _, _ => none
  | n + 1, x0, x1, x2 => if (20 : Int32) ≤ x2 then some x1 else bsN n x0 (x1 + ((x0 >>> (x2 &&& 31)) &&& 1)) (x2 + 1)
theorem bsN_e {N : Nat} {μ : ZM} : ∀ (f : Nat) (x0 x1 x2 : Int32), f_X5_bitsOf_L4 N f x0 x1 x2 μ = (bsN f x0 x1 x2).map (fun v => (v, μ))
  | 0, x0, x1, x2 => rfl
  | f + 1, x0, x1, x2 => by
    unfold f_X5_bitsOf_L4 bsN
    by_cases h : (20 : Int32) ≤ x2
    · rw [if_pos h, if_pos h]; rfl
    · rw [if_neg h, if_neg h]; exact bsN_e f _ _ _
theorem bsN_v : ∀ g, g < 128 → bsN 30 (nI g) 0 0 = some (nI (pcn g)) := by decide +kernel
theorem bsN_m {v : Int32} : ∀ (f : Nat) (x0 x1 x2 : Int32), bsN f x0 x1 x2 = some v → bsN (f + 1) x0 x1 x2 = some v
  | 0, x0, x1, x2, h => by cases h
  | f + 1, x0, x1, x2, h => by
    unfold bsN at h ⊢
    by_cases q : (20 : Int32) ≤ x2
    · rw [if_pos q] at h ⊢; exact h
    · rw [if_neg q] at h ⊢; exact bsN_m f _ _ _ h
theorem bsN_a {v x0 x1 x2 : Int32} {f : Nat} (h : bsN f x0 x1 x2 = some v) : ∀ k : Nat, bsN (f + k) x0 x1 x2 = some v
  | 0 => h
  | k + 1 => bsN_m (f + k) _ _ _ (bsN_a h k)
theorem zq_bits {N g : Nat} {ν : ZM} (hN : 300 ≤ N) (hg : g < 128) : f_X5_bitsOf N (nI g) ν = some (nI (pcn g), ν) := by
  unfold f_X5_bitsOf
  obtain ⟨k, rfl⟩ : ∃ k, N = 30 + k := ⟨N - 30, by omega⟩
  rw [bsN_e, bsN_a (bsN_v g hg) k]
  rfl
theorem pcn_le (g : Nat) : pcn g ≤ 7 := by unfold pcn; omega
-- soothe
theorem zl_soothe_L {N n : Nat} {w : Int32} {T : Tw} (hN : 300 ≤ N) (hT : tok T) (hy : ty T ≤ 9999) (hn : n ≤ 40) : ∀ (f m : Nat) (x y : Int32) (μ ν : ZM), tn T < m + f → m ≤ tn T → -4 ≤ y → CT μ 1 T → RT ν 1 0 T → ∃ v μ' ν', f_X4_soothe_L31 N f 0 (nI n) w x y (nI m) μ = some (v, μ') ∧ f_X5_soothe_L31 N f 0 (nI n) w x y (nI m) ν = some (v, ν') ∧ zp_Fr 98 μ μ' ∧ zq_Fr 2 ν ν'
  | 0, m, x, y, μ, ν, hf, hm, hy4, hc, hr => absurd hf (by omega)
  | f + 1, m, x, y, μ, ν, hf, hm, hy4, hc, hr => by
    unfold f_X4_soothe_L31 f_X5_soothe_L31
    have h7 := hT.1
    have n1 : μ.1 1 4 = nI (tn T) := hc.1
    have n2 : ν.1 1 0 = nI (tn T) := hr.1
    by_cases hin : m < tn T
    · have hl : (nI (tn T) ≤ nI m) = False := eq_false (nI_ge hin (by omega))
      have q1 := zp_isT (N := N) hc (tok_g hT) (show m < 7 by omega)
      have q2 := zq_parted (N := N) hr hT hin
      by_cases hb : (tg T).testBit m = true
      · have ht := (hT.2.2.2 m hin).2.2.2
        have hT1 : tok (Ttm T m (tt T m - 5)) := tok_t hT (by omega)
        obtain ⟨μ1, f1, c1, r1⟩ := zp_become (N := N) (a := 98) (b := 1) hc hT.1 (by omega)
        obtain ⟨μ2, f2, c2, r2⟩ := zp_better (N := N) (n := 5) c1 hT hin (by omega)
        obtain ⟨μ3, f3, c3, r3⟩ := zp_years hN (n := n) (by omega) c2 hT1 (show ty T < 2 ^ 20 by omega)
        obtain ⟨ν1, g1, d1, s1⟩ := zq_take (N := N) (by omega) hr hT
        obtain ⟨ν2, g2, d2, s2⟩ := zq_nurse (N := N) (n := 5) d1 hT hin (by omega)
        obtain ⟨ν3, g3, d3, s3⟩ := zq_goOn hN (n := n) (by omega) d2 hT1 (show ty T < 2 ^ 20 by omega)
        have f2 : f_X3_better N 98 (nI m) 5 μ1 = some μ2 := f2
        have g2 : f_X5_nurseOn N 2 (nI m) 5 ν1 = some ν2 := g2
        have hT3 := tok_passN n hT1
        have F := r1.tr (r2.tr r3)
        have G := s1.tr (s2.tr s3)
        simp only [Nat.zero_add, n1, n2, hl, if_false, Option.bind_some, nI_1, q1, q2, hb, if_true, zt10, not_true_eq_false, f_X4_togetherIfNursed, f1, f2, f3, g1, g2, g3, c3.2.1, zp_bits (tok_g hT3), zq_tog d3 hT3, zq_bits hN (tok_g hT3)]
        by_cases hq : nI (pcn (tg (passN (Ttm T m (tt T m - 5)) n))) ≤ y
        · simp only [hq, if_true]
          obtain ⟨v, μ', ν', a1, a2, a3, a4⟩ := zl_soothe_L hN hT hy hn f (m + 1) x y μ3 ν3 (by omega) (by omega) hy4 (hc.fr F (by omega)) (hr.fr (G.1 1 (by decide) (by decide)))
          exact ⟨v, μ', ν', a1, a2, F.tr a3, G.tr a4⟩
        · simp only [hq, if_false]
          obtain ⟨v, μ', ν', a1, a2, a3, a4⟩ := zl_soothe_L hN hT hy hn f (m + 1) (nI m) (nI (pcn (tg (passN (Ttm T m (tt T m - 5)) n)))) μ3 ν3 (by omega) (by omega) (by
            have := pcn_le (tg (passN (Ttm T m (tt T m - 5)) n))
            rw [Int32.le_iff_toInt_le, nI_toInt (by omega)]
            have : (-4 : Int32).toInt = -4 := by decide
            omega) (hc.fr F (by omega)) (hr.fr (G.1 1 (by decide) (by decide)))
          exact ⟨v, μ', ν', a1, a2, F.tr a3, G.tr a4⟩
      · simp only [Nat.zero_add, n1, n2, hl, if_false, Option.bind_some, nI_1, q1, q2, hb, if_true, zt10, not_false_eq_true, hy4, Bool.false_eq_true]
        exact zl_soothe_L hN hT hy hn f (m + 1) x y μ ν (by omega) (by omega) hy4 hc hr
    · have hl : (nI (tn T) ≤ nI m) = True := eq_true (nI_le (by omega) (by omega))
      simp only [Nat.zero_add, n1, n2, hl, if_true]
      by_cases hw : w = 0
      · simp only [hw, not_true_eq_false, if_false]
        exact ⟨x, μ, ν, rfl, rfl, zp_Fr.rf, zq_Fr.rf⟩
      · simp only [hw, not_false_eq_true, if_true]
        exact ⟨y, μ, ν, rfl, rfl, zp_Fr.rf, zq_Fr.rf⟩
theorem zl_soothe {N : Nat} (hN : 300 ≤ N) (a b : Int32) : zl_ok zr_rel (f_X4_soothe N 0 a b) (f_X5_soothe N 0 a b) := by
  refine zl_q (fun T μ ν h => ?_)
  obtain ⟨hc, hr, hT, hy⟩ := h
  have h7 := hT.1
  rcases zp_in (N := N) (a := 1) (b := 40) (x := a) (by omega) (by omega) with ⟨k, k1, k2, rfl, e1, e2⟩ | ⟨e1, e2⟩
  · have e1 : ∀ μ, f_X4_within N (nI k) 1 40 μ = some (1, μ) := e1
    have e2 : ∀ μ, f_X5_in N (nI k) 1 40 μ = some (1, μ) := e2
    rcases zp_in (N := N) (a := 0) (b := 1) (x := b) (by omega) (by omega) with ⟨j, j1, j2, rfl, e3, e4⟩ | ⟨e3, e4⟩
    · have e3 : ∀ μ, f_X4_within N (nI j) 0 1 μ = some (1, μ) := e3
      have e4 : ∀ μ, f_X5_in N (nI j) 0 1 μ = some (1, μ) := e4
      obtain ⟨v, μ', ν', a1, a2, a3, a4⟩ := zl_soothe_L (n := k) (w := nI j) hN hT hy (by omega) N 0 (-4) (-4) μ ν (by omega) (by omega) (by decide) hc hr
      refine ⟨v, μ', ν', ?_, ?_, a3, a4⟩
      · unfold f_X4_soothe
        simp only [e1, e3, Option.bind_some, zt10, not_false_eq_true, if_true, if_false]
        exact a1
      · unfold f_X5_soothe
        simp only [e2, e4, Option.bind_some, zt10, not_false_eq_true, if_true, if_false]
        exact a2
    · have e3 : ∀ μ, f_X4_within N b 0 1 μ = some (0, μ) := e3
      have e4 : ∀ μ, f_X5_in N b 0 1 μ = some (0, μ) := e4
      refine ⟨-1, μ, ν, ?_, ?_, zp_Fr.rf, zq_Fr.rf⟩
      · unfold f_X4_soothe
        simp only [e1, e3, Option.bind_some, zt10, not_true_eq_false, if_false]
      · unfold f_X5_soothe
        simp only [e2, e4, Option.bind_some, zt10, not_true_eq_false, if_false]
  · have e1 : ∀ μ, f_X4_within N a 1 40 μ = some (0, μ) := e1
    have e2 : ∀ μ, f_X5_in N a 1 40 μ = some (0, μ) := e2
    refine ⟨-1, μ, ν, ?_, ?_, zp_Fr.rf, zq_Fr.rf⟩
    · unfold f_X4_soothe
      simp only [e1, Option.bind_some, if_true]
    · unfold f_X5_soothe
      simp only [e2, Option.bind_some, if_true]
