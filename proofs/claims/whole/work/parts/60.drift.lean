-- drift
theorem nI_mulN (a b : Nat) : nI a * nI b = nI (a * b) := (Int32.ofNat_mul a b).symm
theorem nI_divN {a b : Nat} (ha : a < 2 ^ 31) (hb : b < 2 ^ 31) : nI a / nI b = nI (a / b) := (Int32.ofNat_div ha hb).symm
theorem nI_subN {a b : Nat} (h : b ≤ a) : nI a - nI b = nI (a - b) := (Int32.ofNat_sub a b h).symm
theorem nI_remN {a b : Nat} (ha : a < 2 ^ 31) (hb : b < 2 ^ 31) : nI a - nI a / nI b * nI b = nI (a % b) := by
  rw [nI_divN ha hb, nI_mulN, nI_subN (Nat.div_mul_le_self a b)]
  have := Nat.div_add_mod' a b
  congr 1
  omega
def dn (d : Nat) : Nat := (d * 1103515245 + 12345) % 2 ^ 31
theorem dn_lt (d : Nat) : dn d < 2 ^ 31 := Nat.mod_lt _ (by decide)
theorem nI_and31 (x : Nat) : nI x &&& 2147483647 = nI (x % 2 ^ 31) := by
  apply Int32.toBitVec_inj.mp
  apply BitVec.eq_of_toNat_eq
  show (BitVec.ofNat 32 x &&& BitVec.ofNat 32 2147483647).toNat = (BitVec.ofNat 32 (x % 2 ^ 31)).toNat
  rw [BitVec.toNat_and, BitVec.toNat_ofNat, BitVec.toNat_ofNat, BitVec.toNat_ofNat, show 2147483647 % 2 ^ 32 = 2 ^ 31 - 1 by decide, Nat.and_two_pow_sub_one_eq_mod]
  omega
theorem zp_dn (d : Nat) : (nI d * 1103515245 + 12345) &&& 2147483647 = nI (dn d) := by
  rw [show (1103515245 : Int32) = nI 1103515245 from rfl, show (12345 : Int32) = nI 12345 from rfl, nI_mulN, nI_add, nI_and31]
  rfl
theorem zq_dn {d : Nat} (hd : d < 2 ^ 31) : Int64.toInt32 ((((Int32.toInt64 (nI d)) * 1103515245) + 12345) - (((Int32.toInt64 (nI d)) * 1103515245) + 12345) / 2147483648 * 2147483648) = nI (dn d) := by
  rw [nI_l hd, show (1103515245 : Int64) = lN 1103515245 from rfl, show (12345 : Int64) = lN 12345 from rfl, show (2147483648 : Int64) = lN 2147483648 from rfl, lN_mul, lN_add]
  have e : lN (d * 1103515245 + 12345) / lN 2147483648 = lN ((d * 1103515245 + 12345) / 2147483648) := (Int64.ofNat_div (by omega) (by omega)).symm
  rw [e, lN_mul, lN_sub (Nat.div_mul_le_self _ _), lN_i]
  have := Nat.div_add_mod' (d * 1103515245 + 12345) 2147483648
  unfold dn
  congr 1
  omega
