-- drift
theorem nI_mulN (a b : Nat) : nI a * nI b = nI (a * b) := (Int32.ofNat_mul a b).symm
theorem nI_divN {a b : Nat} (ha : a < 2 ^ 31) (hb : b < 2 ^ 31) : nI a / nI b = nI (a / b) := (Int32.ofNat_div ha hb).symm
theorem nI_subN {a b : Nat} (h : b ≤ a) : nI a - nI b = nI (a - b) := (Int32.ofNat_sub a b h).symm
theorem nI_remN {a b : Nat} (ha : a < 2 ^ 31) (hb : b < 2 ^ 31) : nI a - nI a / nI b * nI b = nI (a % b) := by
  rw [nI_divN ha hb, nI_mulN, nI_subN (Nat.div_mul_le_self a b)]
  have := Nat.div_add_mod' a b
  congr 1
  omega
def dn (d : Nat) : Nat := (d * 1103515245 + 12345) % 2 ^ 31
theorem dn_lt (d : Nat) : dn d < 2 ^ 31 := Nat.mod_lt _ (by decide)
theorem nI_and31 (x : Nat) : nI x &&& 2147483647 = nI (x % 2 ^ 31) := by
  apply Int32.toBitVec_inj.mp
  apply BitVec.eq_of_toNat_eq
  show (BitVec.ofNat 32 x &&& BitVec.ofNat 32 2147483647).toNat = (BitVec.ofNat 32 (x % 2 ^ 31)).toNat
  rw [BitVec.toNat_and, BitVec.toNat_ofNat, BitVec.toNat_ofNat, BitVec.toNat_ofNat, show 2147483647 % 2 ^ 32 = 2 ^ 31 - 1 by decide, Nat.and_two_pow_sub_one_eq_mod]
  omega
theorem zp_drw (d : Nat) : (nI d * 1103515245 + 12345) &&& 2147483647 = nI (dn d) := by
  rw [show (1103515245 : Int32) = nI 1103515245 from rfl, show (12345 : Int32) = nI 12345 from rfl, nI_mulN, nI_add, nI_and31]
  rfl
theorem zq_drw {d : Nat} (hd : d < 2 ^ 31) : Int64.toInt32 ((((Int32.toInt64 (nI d)) * 1103515245) + 12345) - (((Int32.toInt64 (nI d)) * 1103515245) + 12345) / 2147483648 * 2147483648) = nI (dn d) := by
  rw [nI_l hd, show (1103515245 : Int64) = lN 1103515245 from rfl, show (12345 : Int64) = lN 12345 from rfl, show (2147483648 : Int64) = lN 2147483648 from rfl, lN_mul, lN_add]
  have e : lN (d * 1103515245 + 12345) / lN 2147483648 = lN ((d * 1103515245 + 12345) / 2147483648) := (Int64.ofNat_div (by omega) (by omega)).symm
  rw [e, lN_mul, lN_sub (Nat.div_mul_le_self _ _), lN_i]
  exact congrArg nI (show _ = (d * 1103515245 + 12345) % 2 ^ 31 by omega)
def drw (T : Tw) : Tw := if tn T = 0 then Td T (dn (td T)) else if (tg T).testBit (dn (td T) / 65536 % tn T) = true then zwo (Td T (dn (td T))) (dn (td T) / 65536 % tn T) (tt T (dn (td T) / 65536 % tn T) + dn (td T) / 128 % 7) else if dn (td T) / 128 % 7 = 0 then zanew (Td T (dn (td T))) (dn (td T) / 65536 % tn T) else Td T (dn (td T))
theorem drw_y (T : Tw) : ty (drw T) = ty T := by
  unfold drw zwo
  repeat' split
  all_goals rfl
theorem tok_drw {T : Tw} (hT : tok T) : tok (drw T) := by
  have hd : tok (Td T (dn (td T))) := tok_d hT (dn_lt _)
  unfold drw
  by_cases h0 : tn T = 0
  · rw [if_pos h0]; exact hd
  · have hi : dn (td T) / 65536 % tn T < tn T := Nat.mod_lt _ (by omega)
    rw [if_neg h0]
    split
    · exact tok_wo hd
    · split
      · exact tok_anew hd hi
      · exact hd
theorem zp_draw {N a : Nat} {μ : ZM} {T : Tw} (h : CT μ a T) (hT : tok T) : ∃ μ', f_X3_drawNext N a μ = some μ' ∧ CT μ' a (drw T) ∧ zp_Fr a μ μ' := by
  have h7 := hT.1
  have hd : tok (Td T (dn (td T))) := tok_d hT (dn_lt _)
  have hl := dn_lt (td T)
  have c1 := h.d (dn (td T))
  have n1 : (zk_si μ a 7 (nI (dn (td T)))).1 a 4 = nI (tn T) := c1.1
  have d1 : (zk_si μ a 7 (nI (dn (td T)))).1 a 7 = nI (dn (td T)) := zp_ss
  have F1 : zp_Fr a μ (zk_si μ a 7 (nI (dn (td T)))) := zp_Fr.si (by omega) (by omega)
  have d0 : μ.1 a 7 = nI (td T) := h.2.2.2.1
  unfold f_X3_drawNext
  simp only [d0, zp_drw, n1, d1]
  generalize zk_si μ a 7 (nI (dn (td T))) = μ1 at c1 n1 d1 F1 ⊢
  rw [show (65536 : Int32) = nI 65536 from rfl, show (128 : Int32) = nI 128 from rfl, show (7 : Int32) = nI 7 from rfl, nI_divN hl (show 65536 < 2 ^ 31 by omega), nI_divN hl (show 128 < 2 ^ 31 by omega), nI_remN (show dn (td T) / 65536 < 2 ^ 31 by omega) (show tn T < 2 ^ 31 by omega), nI_remN (show dn (td T) / 128 < 2 ^ 31 by omega) (show 7 < 2 ^ 31 by omega)]
  unfold drw
  by_cases h0 : tn T = 0
  · have l0 : ((0 : Int32) < nI (tn T)) = False := eq_false (by rw [h0]; decide)
    rw [if_pos h0]
    simp only [l0, if_false]
    exact ⟨μ1, rfl, c1, F1⟩
  · have hi : dn (td T) / 65536 % tn T < tn T := Nat.mod_lt _ (by omega)
    have hb7 : dn (td T) / 128 % 7 < 7 := Nat.mod_lt _ (by omega)
    generalize dn (td T) / 65536 % tn T = i at hi ⊢
    generalize dn (td T) / 128 % 7 = b at hb7 ⊢
    have l0 : ((0 : Int32) < nI (tn T)) = True := eq_true (nI_lt (a := 0) (by omega) (by omega))
    have l1 : (nI (tn T) = 0) = False := eq_false (fun q => by
      have := (nI_eq (b := 0) (show tn T < 2 ^ 31 by omega) (by omega)).mp q
      omega)
    have q1 := zp_isT (N := N) c1 (tok_g hd) (show i < 7 by omega)
    rw [if_neg h0]
    simp only [l0, l1, if_true, if_false, q1, Option.bind_some]
    by_cases hb : (tg T).testBit i = true
    · obtain ⟨μ2, f2, c2, r2⟩ := zp_stir (N := N) (n := b) c1 hd hi (by omega)
      simp only [hb, if_true, zt10, if_false, f2, Option.bind_some]
      exact ⟨μ2, rfl, c2, F1.tr r2⟩
    · by_cases hz : b = 0
      · obtain ⟨μ2, f2, c2, r2⟩ := zp_anew (N := N) c1 hd hi
        subst hz
        simp only [hb, if_true, if_false, Bool.false_eq_true, nI_0, not_true_eq_false, f2, Option.bind_some]
        exact ⟨μ2, rfl, c2, F1.tr r2⟩
      · have lz : (nI b = 0) = False := eq_false (fun q => hz ((nI_eq (b := 0) (show b < 2 ^ 31 by omega) (by omega)).mp q))
        simp only [hb, hz, lz, if_true, if_false, Bool.false_eq_true, not_false_eq_true]
        exact ⟨μ1, rfl, c1, F1⟩
