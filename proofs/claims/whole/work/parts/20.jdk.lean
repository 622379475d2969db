-- java/lang/Integer.bitCount(I)I
def f_J6_bitCount_0f7a4 (N : Nat) (x0 : Int32) (μ : ZM) : Option (Int32 × ZM) :=
  some (((((((((x0 - ((UInt32.toInt32 (Int32.toUInt32 x0 >>> (Int32.toUInt32 1 &&& Int32.toUInt32 31))) &&& 1431655765)) &&& 858993459) + ((UInt32.toInt32 (Int32.toUInt32 (x0 - ((UInt32.toInt32 (Int32.toUInt32 x0 >>> (Int32.toUInt32 1 &&& Int32.toUInt32 31))) &&& 1431655765)) >>> (Int32.toUInt32 2 &&& Int32.toUInt32 31))) &&& 858993459)) + (UInt32.toInt32 (Int32.toUInt32 (((x0 - ((UInt32.toInt32 (Int32.toUInt32 x0 >>> (Int32.toUInt32 1 &&& Int32.toUInt32 31))) &&& 1431655765)) &&& 858993459) + ((UInt32.toInt32 (Int32.toUInt32 (x0 - ((UInt32.toInt32 (Int32.toUInt32 x0 >>> (Int32.toUInt32 1 &&& Int32.toUInt32 31))) &&& 1431655765)) >>> (Int32.toUInt32 2 &&& Int32.toUInt32 31))) &&& 858993459)) >>> (Int32.toUInt32 4 &&& Int32.toUInt32 31)))) &&& 252645135) + (UInt32.toInt32 (Int32.toUInt32 (((((x0 - ((UInt32.toInt32 (Int32.toUInt32 x0 >>> (Int32.toUInt32 1 &&& Int32.toUInt32 31))) &&& 1431655765)) &&& 858993459) + ((UInt32.toInt32 (Int32.toUInt32 (x0 - ((UInt32.toInt32 (Int32.toUInt32 x0 >>> (Int32.toUInt32 1 &&& Int32.toUInt32 31))) &&& 1431655765)) >>> (Int32.toUInt32 2 &&& Int32.toUInt32 31))) &&& 858993459)) + (UInt32.toInt32 (Int32.toUInt32 (((x0 - ((UInt32.toInt32 (Int32.toUInt32 x0 >>> (Int32.toUInt32 1 &&& Int32.toUInt32 31))) &&& 1431655765)) &&& 858993459) + ((UInt32.toInt32 (Int32.toUInt32 (x0 - ((UInt32.toInt32 (Int32.toUInt32 x0 >>> (Int32.toUInt32 1 &&& Int32.toUInt32 31))) &&& 1431655765)) >>> (Int32.toUInt32 2 &&& Int32.toUInt32 31))) &&& 858993459)) >>> (Int32.toUInt32 4 &&& Int32.toUInt32 31)))) &&& 252645135) >>> (Int32.toUInt32 8 &&& Int32.toUInt32 31)))) + (UInt32.toInt32 (Int32.toUInt32 ((((((x0 - ((UInt32.toInt32 (Int32.toUInt32 x0 >>> (Int32.toUInt32 1 &&& Int32.toUInt32 31))) &&& 1431655765)) &&& 858993459) + ((UInt32.toInt32 (Int32.toUInt32 (x0 - ((UInt32.toInt32 (Int32.toUInt32 x0 >>> (Int32.toUInt32 1 &&& Int32.toUInt32 31))) &&& 1431655765)) >>> (Int32.toUInt32 2 &&& Int32.toUInt32 31))) &&& 858993459)) + (UInt32.toInt32 (Int32.toUInt32 (((x0 - ((UInt32.toInt32 (Int32.toUInt32 x0 >>> (Int32.toUInt32 1 &&& Int32.toUInt32 31))) &&& 1431655765)) &&& 858993459) + ((UInt32.toInt32 (Int32.toUInt32 (x0 - ((UInt32.toInt32 (Int32.toUInt32 x0 >>> (Int32.toUInt32 1 &&& Int32.toUInt32 31))) &&& 1431655765)) >>> (Int32.toUInt32 2 &&& Int32.toUInt32 31))) &&& 858993459)) >>> (Int32.toUInt32 4 &&& Int32.toUInt32 31)))) &&& 252645135) + (UInt32.toInt32 (Int32.toUInt32 (((((x0 - ((UInt32.toInt32 (Int32.toUInt32 x0 >>> (Int32.toUInt32 1 &&& Int32.toUInt32 31))) &&& 1431655765)) &&& 858993459) + ((UInt32.toInt32 (Int32.toUInt32 (x0 - ((UInt32.toInt32 (Int32.toUInt32 x0 >>> (Int32.toUInt32 1 &&& Int32.toUInt32 31))) &&& 1431655765)) >>> (Int32.toUInt32 2 &&& Int32.toUInt32 31))) &&& 858993459)) + (UInt32.toInt32 (Int32.toUInt32 (((x0 - ((UInt32.toInt32 (Int32.toUInt32 x0 >>> (Int32.toUInt32 1 &&& Int32.toUInt32 31))) &&& 1431655765)) &&& 858993459) + ((UInt32.toInt32 (Int32.toUInt32 (x0 - ((UInt32.toInt32 (Int32.toUInt32 x0 >>> (Int32.toUInt32 1 &&& Int32.toUInt32 31))) &&& 1431655765)) >>> (Int32.toUInt32 2 &&& Int32.toUInt32 31))) &&& 858993459)) >>> (Int32.toUInt32 4 &&& Int32.toUInt32 31)))) &&& 252645135) >>> (Int32.toUInt32 8 &&& Int32.toUInt32 31)))) >>> (Int32.toUInt32 16 &&& Int32.toUInt32 31)))) &&& 63), μ)
def g_J6_bitCount_0f7a4 (N : Nat) (as : List ZV) (μ : ZM) : Option (Int32 × ZM) := match as with
  | [.inl x0] => f_J6_bitCount_0f7a4 N x0 μ
  | _ => none
theorem g_J6_bitCount_0f7a4_i {N : Nat} {as : List ZV} {μ : ZM} {r : Int32 × ZM} (h : g_J6_bitCount_0f7a4 N as μ = some r) : ∃ (x0 : Int32), as = [.inl x0] ∧ f_J6_bitCount_0f7a4 N x0 μ = some r := by
  unfold g_J6_bitCount_0f7a4 at h
  split at h
  · exact ⟨_, rfl, h⟩
  · cases h
set_option maxRecDepth 100000 in
theorem c_J6_bitCount_0f7a4 (N : Nat) : zk_C yJ6_bitCount_0f7a4 cJ6_bitCount_0f7a4 1 (some .int) ({ frames := 0, cells := 0, slots := 0, locals := 0 } : Room) zq_I (g_J6_bitCount_0f7a4 N) := by
  refine zk_met ?κ (by decide +kernel) ?hG ?body
  case body =>
    intro X E C
    have C : zk_X X E RJ6 cJ6_bitCount_0f7a4 1 (some .int) ({ frames := 0, cells := 0, slots := 0, locals := 0 } : Room) := C
    have h52 := zs_iret C dJ6_bitCount_0f7a4_52
    have h51 := zs_iand C dJ6_bitCount_0f7a4_51 h52
    have h49 := zs_bipush (v := 63) C dJ6_bitCount_0f7a4_49 (by decide) h51
    have h48 := zs_iload_n (i := 0) C dJ6_bitCount_0f7a4_48 rfl h49
    have h47 := zs_istore_n (i := 0) C dJ6_bitCount_0f7a4_47 rfl h48
    have h46 := zs_iadd C dJ6_bitCount_0f7a4_46 h47
    have h45 := zs_iushr C dJ6_bitCount_0f7a4_45 h46
    have h43 := zs_bipush (v := 16) C dJ6_bitCount_0f7a4_43 (by decide) h45
    have h42 := zs_iload_n (i := 0) C dJ6_bitCount_0f7a4_42 rfl h43
    have h41 := zs_iload_n (i := 0) C dJ6_bitCount_0f7a4_41 rfl h42
    have h40 := zs_istore_n (i := 0) C dJ6_bitCount_0f7a4_40 rfl h41
    have h39 := zs_iadd C dJ6_bitCount_0f7a4_39 h40
    have h38 := zs_iushr C dJ6_bitCount_0f7a4_38 h39
    have h36 := zs_bipush (v := 8) C dJ6_bitCount_0f7a4_36 (by decide) h38
    have h35 := zs_iload_n (i := 0) C dJ6_bitCount_0f7a4_35 rfl h36
    have h34 := zs_iload_n (i := 0) C dJ6_bitCount_0f7a4_34 rfl h35
    have h33 := zs_istore_n (i := 0) C dJ6_bitCount_0f7a4_33 rfl h34
    have h32 := zs_iand C dJ6_bitCount_0f7a4_32 h33
    have h29 := zs_ldcw (v := 252645135) C dJ6_bitCount_0f7a4_29 zw_405 h32
    have h28 := zs_iadd C dJ6_bitCount_0f7a4_28 h29
    have h27 := zs_iushr C dJ6_bitCount_0f7a4_27 h28
    have h26 := zs_iconst (v := 4) C dJ6_bitCount_0f7a4_26 (by decide) h27
    have h25 := zs_iload_n (i := 0) C dJ6_bitCount_0f7a4_25 rfl h26
    have h24 := zs_iload_n (i := 0) C dJ6_bitCount_0f7a4_24 rfl h25
    have h23 := zs_istore_n (i := 0) C dJ6_bitCount_0f7a4_23 rfl h24
    have h22 := zs_iadd C dJ6_bitCount_0f7a4_22 h23
    have h21 := zs_iand C dJ6_bitCount_0f7a4_21 h22
    have h18 := zs_ldcw (v := 858993459) C dJ6_bitCount_0f7a4_18 zw_404 h21
    have h17 := zs_iushr C dJ6_bitCount_0f7a4_17 h18
    have h16 := zs_iconst (v := 2) C dJ6_bitCount_0f7a4_16 (by decide) h17
    have h15 := zs_iload_n (i := 0) C dJ6_bitCount_0f7a4_15 rfl h16
    have h14 := zs_iand C dJ6_bitCount_0f7a4_14 h15
    have h11 := zs_ldcw (v := 858993459) C dJ6_bitCount_0f7a4_11 zw_404 h14
    have h10 := zs_iload_n (i := 0) C dJ6_bitCount_0f7a4_10 rfl h11
    have h9 := zs_istore_n (i := 0) C dJ6_bitCount_0f7a4_9 rfl h10
    have h8 := zs_isub C dJ6_bitCount_0f7a4_8 h9
    have h7 := zs_iand C dJ6_bitCount_0f7a4_7 h8
    have h4 := zs_ldcw (v := 1431655765) C dJ6_bitCount_0f7a4_4 zw_403 h7
    have h3 := zs_iushr C dJ6_bitCount_0f7a4_3 h4
    have h2 := zs_iconst (v := 1) C dJ6_bitCount_0f7a4_2 (by decide) h3
    have h1 := zs_iload_n (i := 0) C dJ6_bitCount_0f7a4_1 rfl h2
    have h0 := zs_iload_n (i := 0) C dJ6_bitCount_0f7a4_0 rfl h1
    exact h0
  case hG =>
    intro as μ r h
    obtain ⟨x0, rfl, h⟩ := g_J6_bitCount_0f7a4_i h
    exact ⟨Nat.le_of_ble_eq_true rfl, h⟩
theorem m_J6_bitCount_0f7a4 (N : Nat) : zk_MS yJ6_bitCount_0f7a4 cJ6_bitCount_0f7a4 1 (some .int) ({ frames := 0, cells := 0, slots := 0, locals := 0 } : Room) zq_I (g_J6_bitCount_0f7a4 N) 1 := ⟨c_J6_bitCount_0f7a4 N, zw_402, zw_401, zw_34, rfl, rfl, by decide +kernel⟩
