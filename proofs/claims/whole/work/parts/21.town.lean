-- LongestWed$Town.settle(IIIIZ)I
def f_X3_settle (N : Nat) (x0 : Nat) (x1 : Int32) (x2 : Int32) (x3 : Int32) (x4 : Int32) (x5 : Int32) (μ : ZM) : Option (Int32 × ZM) :=
  if (μ.1 x0 4) < (7 : Int32) then
    if zk_o (μ.1 x0 4) 7 = true then none else
    let μ1 := zk_si μ (x0 + 1) (Int32.toNatClampNeg (μ.1 x0 4)) x1
    if zk_o (μ.1 x0 4) 7 = true then none else
    let μ2 := zk_si μ1 (x0 + 2) (Int32.toNatClampNeg (μ.1 x0 4)) x2
    if zk_o (μ.1 x0 4) 7 = true then none else
    let μ3 := zk_si μ2 (x0 + 3) (Int32.toNatClampNeg (μ.1 x0 4)) x3
    if zk_o (μ.1 x0 4) 7 = true then none else
    let μ4 := zk_si μ3 (x0 + 4) (Int32.toNatClampNeg (μ.1 x0 4)) x4
    let j67 : ZM → Option (Int32 × ZM) := fun μ5 =>
      let μ6 := zk_si μ5 x0 4 ((μ.1 x0 4) + 1)
      some ((μ.1 x0 4), μ6)
    if x5 = 0 then
      j67 μ4
    else
      let μ7 := zk_si μ4 x0 5 ((μ4.1 x0 5) ||| (1 <<< ((μ.1 x0 4) &&& 31)))
      j67 μ7
  else
    some ((-3), μ)
def g_X3_settle (N : Nat) (as : List ZV) (μ : ZM) : Option (Int32 × ZM) := match as with
  | [.inr (.inr (3, x0)), .inl x1, .inl x2, .inl x3, .inl x4, .inl x5] => f_X3_settle N x0 x1 x2 x3 x4 x5 μ
  | _ => none
theorem g_X3_settle_i {N : Nat} {as : List ZV} {μ : ZM} {r : Int32 × ZM} (h : g_X3_settle N as μ = some r) : ∃ (x0 : Nat) (x1 : Int32) (x2 : Int32) (x3 : Int32) (x4 : Int32) (x5 : Int32), as = [.inr (.inr (3, x0)), .inl x1, .inl x2, .inl x3, .inl x4, .inl x5] ∧ f_X3_settle N x0 x1 x2 x3 x4 x5 μ = some r := by
  unfold g_X3_settle at h
  split at h
  · exact ⟨_, _, _, _, _, _, rfl, h⟩
  · cases h
set_option maxRecDepth 100000 in
theorem c_X3_settle (N : Nat) : zk_C yX3_settle cX3_settle 7 (some .int) ({ frames := 0, cells := 0, slots := 0, locals := 0 } : Room) zq_I (g_X3_settle N) := by
  refine zk_met ?κ (by decide +kernel) ?hG ?body
  case body =>
    intro X E C
    have C : zk_X X E RX3 cX3_settle 7 (some .int) ({ frames := 0, cells := 0, slots := 0, locals := 0 } : Room) := C
    have h77 := zs_iret C dX3_settle_77
    have h75 := zs_iload (i := 6) C dX3_settle_75 h77
    have h72 := zs_pI C dX3_settle_72 zf_3_4 zw_57 rfl (by decide +kernel) h75
    have h71 := zs_iadd C dX3_settle_71 h72
    have h70 := zs_iconst (v := 1) C dX3_settle_70 (by decide) h71
    have h68 := zs_iload (i := 6) C dX3_settle_68 h70
    have h67 := zs_aload_n (i := 0) C dX3_settle_67 rfl h68
    have h64 := zs_pI C dX3_settle_64 zf_3_5 zw_59 rfl (by decide +kernel) h67
    have h63 := zs_ior C dX3_settle_63 h64
    have h62 := zs_ishl C dX3_settle_62 h63
    have h60 := zs_iload (i := 6) C dX3_settle_60 h62
    have h59 := zs_iconst (v := 1) C dX3_settle_59 (by decide) h60
    have h56 := zs_gI C dX3_settle_56 zf_3_5 zw_59 h59
    have h55 := zs_dup C dX3_settle_55 h56
    have h54 := zs_aload_n (i := 0) C dX3_settle_54 rfl h55
    have h51 := zs_if_eq (tgt := 67) C dX3_settle_51 (by decide) h67 h54
    have h49 := zs_iload (i := 5) C dX3_settle_49 h51
    have h48 := zs_iast (n := 7) C dX3_settle_48 (by decide) h49
    have h46 := zs_iload (i := 4) C dX3_settle_46 h48
    have h44 := zs_iload (i := 6) C dX3_settle_44 h46
    have h41 := zs_gR C dX3_settle_41 zf_3_3 zw_55 h44
    have h40 := zs_aload_n (i := 0) C dX3_settle_40 rfl h41
    have h39 := zs_iast (n := 7) C dX3_settle_39 (by decide) h40
    have h38 := zs_iload_n (i := 3) C dX3_settle_38 rfl h39
    have h36 := zs_iload (i := 6) C dX3_settle_36 h38
    have h33 := zs_gR C dX3_settle_33 zf_3_2 zw_53 h36
    have h32 := zs_aload_n (i := 0) C dX3_settle_32 rfl h33
    have h31 := zs_iast (n := 7) C dX3_settle_31 (by decide) h32
    have h30 := zs_iload_n (i := 2) C dX3_settle_30 rfl h31
    have h28 := zs_iload (i := 6) C dX3_settle_28 h30
    have h25 := zs_gR C dX3_settle_25 zf_3_1 zw_51 h28
    have h24 := zs_aload_n (i := 0) C dX3_settle_24 rfl h25
    have h23 := zs_iast (n := 7) C dX3_settle_23 (by decide) h24
    have h22 := zs_iload_n (i := 1) C dX3_settle_22 rfl h23
    have h20 := zs_iload (i := 6) C dX3_settle_20 h22
    have h17 := zs_gR C dX3_settle_17 zf_3_0 zw_49 h20
    have h16 := zs_aload_n (i := 0) C dX3_settle_16 rfl h17
    have h15 := zs_iret C dX3_settle_15
    have h13 := zs_bipush (v := (-3)) C dX3_settle_13 (by decide) h15
    have h10 := zs_icmp_lt (tgt := 16) C dX3_settle_10 (by decide) h16 h13
    have h8 := zs_bipush (v := 7) C dX3_settle_8 (by decide) h10
    have h6 := zs_iload (i := 6) C dX3_settle_6 h8
    have h4 := zs_istore (i := 6) C dX3_settle_4 h6
    have h1 := zs_gI C dX3_settle_1 zf_3_4 zw_57 h4
    have h0 := zs_aload_n (i := 0) C dX3_settle_0 rfl h1
    exact h0
  case hG =>
    intro as μ r h
    obtain ⟨x0, x1, x2, x3, x4, x5, rfl, h⟩ := g_X3_settle_i h
    exact ⟨Nat.le_of_ble_eq_true rfl, h⟩
theorem m_X3_settle (N : Nat) : zk_MV yX3_settle cX3_settle 7 (some .int) ({ frames := 0, cells := 0, slots := 0, locals := 0 } : Room) zq_I (g_X3_settle N) 5 3 := ⟨c_X3_settle N, zw_184, zw_182, zw_183, zw_27, rfl, rfl, by decide +kernel, by decide, ⟨TX3, 8, rfl⟩, fun as μ r h => by obtain ⟨x0, x1, x2, x3, x4, x5, rfl, -⟩ := g_X3_settle_i h; exact ⟨_, _, rfl⟩⟩
-- LongestWed$Town.isTogether(I)Z
def f_X3_isTogether (N : Nat) (x0 : Nat) (x1 : Int32) (μ : ZM) : Option (Int32 × ZM) :=
  if ((μ.1 x0 5) &&& (1 <<< (x1 &&& 31))) = 0 then
    zk_zr 0 μ
  else
    zk_zr 1 μ
def g_X3_isTogether (N : Nat) (as : List ZV) (μ : ZM) : Option (Int32 × ZM) := match as with
  | [.inr (.inr (3, x0)), .inl x1] => f_X3_isTogether N x0 x1 μ
  | _ => none
theorem g_X3_isTogether_i {N : Nat} {as : List ZV} {μ : ZM} {r : Int32 × ZM} (h : g_X3_isTogether N as μ = some r) : ∃ (x0 : Nat) (x1 : Int32), as = [.inr (.inr (3, x0)), .inl x1] ∧ f_X3_isTogether N x0 x1 μ = some r := by
  unfold g_X3_isTogether at h
  split at h
  · exact ⟨_, _, rfl, h⟩
  · cases h
set_option maxRecDepth 100000 in
theorem c_X3_isTogether (N : Nat) : zk_C yX3_isTogether cX3_isTogether 2 (some .boolean) ({ frames := 0, cells := 0, slots := 0, locals := 0 } : Room) zq_I (g_X3_isTogether N) := by
  refine zk_met ?κ (by decide +kernel) ?hG ?body
  case body =>
    intro X E C
    have C : zk_X X E RX3 cX3_isTogether 2 (some .boolean) ({ frames := 0, cells := 0, slots := 0, locals := 0 } : Room) := C
    have h16 := zs_zret C dX3_isTogether_16
    have h15 := zs_iconst (v := 0) C dX3_isTogether_15 (by decide) h16
    have h12 := zs_goto (tgt := 16) C dX3_isTogether_12 (by decide) h16
    have h11 := zs_iconst (v := 1) C dX3_isTogether_11 (by decide) h12
    have h8 := zs_if_eq (tgt := 15) C dX3_isTogether_8 (by decide) h15 h11
    have h7 := zs_iand C dX3_isTogether_7 h8
    have h6 := zs_ishl C dX3_isTogether_6 h7
    have h5 := zs_iload_n (i := 1) C dX3_isTogether_5 rfl h6
    have h4 := zs_iconst (v := 1) C dX3_isTogether_4 (by decide) h5
    have h1 := zs_gI C dX3_isTogether_1 zf_3_5 zw_59 h4
    have h0 := zs_aload_n (i := 0) C dX3_isTogether_0 rfl h1
    exact h0
  case hG =>
    intro as μ r h
    obtain ⟨x0, x1, rfl, h⟩ := g_X3_isTogether_i h
    exact ⟨Nat.le_of_ble_eq_true rfl, h⟩
theorem m_X3_isTogether (N : Nat) : zk_MV yX3_isTogether cX3_isTogether 2 (some .boolean) ({ frames := 0, cells := 0, slots := 0, locals := 0 } : Room) zq_I (g_X3_isTogether N) 1 3 := ⟨c_X3_isTogether N, zw_196, zw_194, zw_195, zw_27, rfl, rfl, by decide +kernel, by decide, ⟨TX3, 8, rfl⟩, fun as μ r h => by obtain ⟨x0, x1, rfl, -⟩ := g_X3_isTogether_i h; exact ⟨_, _, rfl⟩⟩
-- LongestWed$Town.longestOf(I)I
def f_X3_longestOf_L5 (N : Nat) : Nat → Nat → Int32 → Int32 → Int32 → ZM → Option (Int32 × ZM)
  | 0, _, _, _, _, _ => none
  | n + 1, x0, x1, x2, x3, μ =>
    if (μ.1 x0 4) ≤ x3 then
      some (x2, μ)
    else
      if (x1 &&& (1 <<< (x3 &&& 31))) = 0 then
        f_X3_longestOf_L5 N n x0 x1 x2 (x3 + 1) μ
      else
        let j40 : Unit → Option (Int32 × ZM) := fun u1 =>
          f_X3_longestOf_L5 N n x0 x1 x3 (x3 + 1) μ
        if x2 < 0 then
          j40 ()
        else
          if zk_o x3 7 = true then none else
          if zk_o x2 7 = true then none else
          if (μ.1 (x0 + 2) (Int32.toNatClampNeg x3)) ≤ (μ.1 (x0 + 2) (Int32.toNatClampNeg x2)) then
            f_X3_longestOf_L5 N n x0 x1 x2 (x3 + 1) μ
          else
            j40 ()
def k_X3_longestOf_L5 (N n : Nat) : ZK (Int32 × ZM) := fun L st μ => match L, st with
  | [some (.inr (.inr (3, x0))), some (.inl x1), some (.inl x2), some (.inl x3)], [] => f_X3_longestOf_L5 N n x0 x1 x2 x3 μ
  | _, _ => none
theorem k_X3_longestOf_L5_i {N : Nat} {n : Nat} {L : ZL} {st : List ZV} {μ : ZM} {r : Int32 × ZM} (h : k_X3_longestOf_L5 N n L st μ = some r) : ∃ (x0 : Nat) (x1 : Int32) (x2 : Int32) (x3 : Int32), L = [some (.inr (.inr (3, x0))), some (.inl x1), some (.inl x2), some (.inl x3)] ∧ st = [] ∧ f_X3_longestOf_L5 N n x0 x1 x2 x3 μ = some r := by
  unfold k_X3_longestOf_L5 at h
  split at h
  · exact ⟨_, _, _, _, rfl, rfl, h⟩
  · cases h
set_option maxRecDepth 100000 in
theorem s_X3_longestOf_L5 (N : Nat) {X : ZX} {E : ZE} (C : zk_X X E RX3 cX3_longestOf 4 (some .int) ({ frames := 0, cells := 0, slots := 0, locals := 0 } : Room)) : ∀ n, zk_S X E 4 zq_I 5 (k_X3_longestOf_L5 N n) := by
  intro n
  induction n with
  | zero =>
    intro H locs ls L st μ r h hL hst hW hS
    obtain ⟨x0, x1, x2, x3, rfl, rfl, h⟩ := k_X3_longestOf_L5_i h
    exact nomatch (show none = some r from h)
  | succ n ih =>
    have h49 := zs_iret C dX3_longestOf_49
    have h48 := zs_iload_n (i := 2) C dX3_longestOf_48 rfl h49
    have h45 := zs_goto (tgt := 5) C dX3_longestOf_45 (by decide) ih
    have h42 := zs_iinc (n := 1) C dX3_longestOf_42 (by decide) h45
    have h41 := zs_istore_n (i := 2) C dX3_longestOf_41 rfl h42
    have h40 := zs_iload_n (i := 3) C dX3_longestOf_40 rfl h41
    have h37 := zs_icmp_le (tgt := 42) C dX3_longestOf_37 (by decide) h42 h40
    have h36 := zs_iald (n := 7) C dX3_longestOf_36 (by decide) h37
    have h35 := zs_iload_n (i := 2) C dX3_longestOf_35 rfl h36
    have h32 := zs_gR C dX3_longestOf_32 zf_3_1 zw_51 h35
    have h31 := zs_aload_n (i := 0) C dX3_longestOf_31 rfl h32
    have h30 := zs_iald (n := 7) C dX3_longestOf_30 (by decide) h31
    have h29 := zs_iload_n (i := 3) C dX3_longestOf_29 rfl h30
    have h26 := zs_gR C dX3_longestOf_26 zf_3_1 zw_51 h29
    have h25 := zs_aload_n (i := 0) C dX3_longestOf_25 rfl h26
    have h22 := zs_if_lt (tgt := 40) C dX3_longestOf_22 (by decide) h40 h25
    have h21 := zs_iload_n (i := 2) C dX3_longestOf_21 rfl h22
    have h18 := zs_if_eq (tgt := 42) C dX3_longestOf_18 (by decide) h42 h21
    have h17 := zs_iand C dX3_longestOf_17 h18
    have h16 := zs_ishl C dX3_longestOf_16 h17
    have h15 := zs_iload_n (i := 3) C dX3_longestOf_15 rfl h16
    have h14 := zs_iconst (v := 1) C dX3_longestOf_14 (by decide) h15
    have h13 := zs_iload_n (i := 1) C dX3_longestOf_13 rfl h14
    have h10 := zs_icmp_ge (tgt := 48) C dX3_longestOf_10 (by decide) h48 h13
    have h7 := zs_gI C dX3_longestOf_7 zf_3_4 zw_57 h10
    have h6 := zs_aload_n (i := 0) C dX3_longestOf_6 rfl h7
    have h5 := zs_iload_n (i := 3) C dX3_longestOf_5 rfl h6
    intro H locs ls L st μ r h hL hst hW hS
    obtain ⟨x0, x1, x2, x3, rfl, rfl, h⟩ := k_X3_longestOf_L5_i h
    exact h5 H locs ls [some (.inr (.inr (3, x0))), some (.inl x1), some (.inl x2), some (.inl x3)] [] μ r h (hL.less ⟨rfl, rfl, rfl, rfl, trivial⟩) hst hW hS
def f_X3_longestOf (N : Nat) (x0 : Nat) (x1 : Int32) (μ : ZM) : Option (Int32 × ZM) :=
  f_X3_longestOf_L5 N N x0 x1 (-4) 0 μ
def g_X3_longestOf (N : Nat) (as : List ZV) (μ : ZM) : Option (Int32 × ZM) := match as with
  | [.inr (.inr (3, x0)), .inl x1] => f_X3_longestOf N x0 x1 μ
  | _ => none
theorem g_X3_longestOf_i {N : Nat} {as : List ZV} {μ : ZM} {r : Int32 × ZM} (h : g_X3_longestOf N as μ = some r) : ∃ (x0 : Nat) (x1 : Int32), as = [.inr (.inr (3, x0)), .inl x1] ∧ f_X3_longestOf N x0 x1 μ = some r := by
  unfold g_X3_longestOf at h
  split at h
  · exact ⟨_, _, rfl, h⟩
  · cases h
set_option maxRecDepth 100000 in
theorem c_X3_longestOf (N : Nat) : zk_C yX3_longestOf cX3_longestOf 4 (some .int) ({ frames := 0, cells := 0, slots := 0, locals := 0 } : Room) zq_I (g_X3_longestOf N) := by
  refine zk_met ?κ (by decide +kernel) ?hG ?body
  case body =>
    intro X E C
    have C : zk_X X E RX3 cX3_longestOf 4 (some .int) ({ frames := 0, cells := 0, slots := 0, locals := 0 } : Room) := C
    have e5 := s_X3_longestOf_L5 N C N
    have h4 := zs_istore_n (i := 3) C dX3_longestOf_4 rfl e5
    have h3 := zs_iconst (v := 0) C dX3_longestOf_3 (by decide) h4
    have h2 := zs_istore_n (i := 2) C dX3_longestOf_2 rfl h3
    have h0 := zs_bipush (v := (-4)) C dX3_longestOf_0 (by decide) h2
    exact h0
  case hG =>
    intro as μ r h
    obtain ⟨x0, x1, rfl, h⟩ := g_X3_longestOf_i h
    exact ⟨Nat.le_of_ble_eq_true rfl, h⟩
theorem m_X3_longestOf (N : Nat) : zk_MV yX3_longestOf cX3_longestOf 4 (some .int) ({ frames := 0, cells := 0, slots := 0, locals := 0 } : Room) zq_I (g_X3_longestOf N) 1 3 := ⟨c_X3_longestOf N, zw_208, zw_206, zw_207, zw_27, rfl, rfl, by decide +kernel, by decide, ⟨TX3, 8, rfl⟩, fun as μ r h => by obtain ⟨x0, x1, rfl, -⟩ := g_X3_longestOf_i h; exact ⟨_, _, rfl⟩⟩
-- LongestWed$Town.keeper()I
def f_X3_keeper (N : Nat) (x0 : Nat) (μ : ZM) : Option (Int32 × ZM) :=
  (f_X3_longestOf N x0 (μ.1 x0 5) μ).bind fun r1 =>
  some (r1.1, r1.2)
def g_X3_keeper (N : Nat) (as : List ZV) (μ : ZM) : Option (Int32 × ZM) := match as with
  | [.inr (.inr (3, x0))] => f_X3_keeper N x0 μ
  | _ => none
theorem g_X3_keeper_i {N : Nat} {as : List ZV} {μ : ZM} {r : Int32 × ZM} (h : g_X3_keeper N as μ = some r) : ∃ (x0 : Nat), as = [.inr (.inr (3, x0))] ∧ f_X3_keeper N x0 μ = some r := by
  unfold g_X3_keeper at h
  split at h
  · exact ⟨_, rfl, h⟩
  · cases h
set_option maxRecDepth 100000 in
theorem c_X3_keeper (N : Nat) : zk_C yX3_keeper cX3_keeper 1 (some .int) ({ frames := 1, cells := 0, slots := 0, locals := 23 } : Room) zq_I (g_X3_keeper N) := by
  refine zk_met ?κ (by decide +kernel) ?hG ?body
  case body =>
    intro X E C
    have C : zk_X X E RX3 cX3_keeper 1 (some .int) ({ frames := 1, cells := 0, slots := 0, locals := 23 } : Room) := C
    have h8 := zs_iret C dX3_keeper_8
    have h5 := zs_vI C dX3_keeper_5 (m_X3_longestOf N) zw_205 ⟨Nat.le_of_ble_eq_true rfl, Nat.le_of_ble_eq_true rfl⟩ h8
    have h2 := zs_gI C dX3_keeper_2 zf_3_5 zw_59 h5
    have h1 := zs_aload_n (i := 0) C dX3_keeper_1 rfl h2
    have h0 := zs_aload_n (i := 0) C dX3_keeper_0 rfl h1
    exact h0
  case hG =>
    intro as μ r h
    obtain ⟨x0, rfl, h⟩ := g_X3_keeper_i h
    exact ⟨Nat.le_of_ble_eq_true rfl, h⟩
theorem m_X3_keeper (N : Nat) : zk_MV yX3_keeper cX3_keeper 1 (some .int) ({ frames := 1, cells := 0, slots := 0, locals := 23 } : Room) zq_I (g_X3_keeper N) 0 3 := ⟨c_X3_keeper N, zw_204, zw_202, zw_203, zw_27, rfl, rfl, by decide +kernel, by decide, ⟨TX3, 8, rfl⟩, fun as μ r h => by obtain ⟨x0, rfl, -⟩ := g_X3_keeper_i h; exact ⟨_, _, rfl⟩⟩
-- LongestWed$Town.secondTo(I)I
def f_X3_secondTo (N : Nat) (x0 : Nat) (x1 : Int32) (μ : ZM) : Option (Int32 × ZM) :=
  if 0 ≤ x1 then
    (f_X3_longestOf N x0 ((μ.1 x0 5) &&& ((1 <<< (x1 &&& 31)) ^^^ (-1))) μ).bind fun r1 =>
    some (r1.1, r1.2)
  else
    some ((-4), μ)
def g_X3_secondTo (N : Nat) (as : List ZV) (μ : ZM) : Option (Int32 × ZM) := match as with
  | [.inr (.inr (3, x0)), .inl x1] => f_X3_secondTo N x0 x1 μ
  | _ => none
theorem g_X3_secondTo_i {N : Nat} {as : List ZV} {μ : ZM} {r : Int32 × ZM} (h : g_X3_secondTo N as μ = some r) : ∃ (x0 : Nat) (x1 : Int32), as = [.inr (.inr (3, x0)), .inl x1] ∧ f_X3_secondTo N x0 x1 μ = some r := by
  unfold g_X3_secondTo at h
  split at h
  · exact ⟨_, _, rfl, h⟩
  · cases h
set_option maxRecDepth 100000 in
theorem c_X3_secondTo (N : Nat) : zk_C yX3_secondTo cX3_secondTo 2 (some .int) ({ frames := 1, cells := 0, slots := 0, locals := 23 } : Room) zq_I (g_X3_secondTo N) := by
  refine zk_met ?κ (by decide +kernel) ?hG ?body
  case body =>
    intro X E C
    have C : zk_X X E RX3 cX3_secondTo 2 (some .int) ({ frames := 1, cells := 0, slots := 0, locals := 23 } : Room) := C
    have h23 := zs_iret C dX3_secondTo_23
    have h20 := zs_vI C dX3_secondTo_20 (m_X3_longestOf N) zw_205 ⟨Nat.le_of_ble_eq_true rfl, Nat.le_of_ble_eq_true rfl⟩ h23
    have h19 := zs_iand C dX3_secondTo_19 h20
    have h18 := zs_ixor C dX3_secondTo_18 h19
    have h17 := zs_iconst (v := (-1)) C dX3_secondTo_17 (by decide) h18
    have h16 := zs_ishl C dX3_secondTo_16 h17
    have h15 := zs_iload_n (i := 1) C dX3_secondTo_15 rfl h16
    have h14 := zs_iconst (v := 1) C dX3_secondTo_14 (by decide) h15
    have h11 := zs_gI C dX3_secondTo_11 zf_3_5 zw_59 h14
    have h10 := zs_aload_n (i := 0) C dX3_secondTo_10 rfl h11
    have h9 := zs_aload_n (i := 0) C dX3_secondTo_9 rfl h10
    have h6 := zs_goto (tgt := 23) C dX3_secondTo_6 (by decide) h23
    have h4 := zs_bipush (v := (-4)) C dX3_secondTo_4 (by decide) h6
    have h1 := zs_if_ge (tgt := 9) C dX3_secondTo_1 (by decide) h9 h4
    have h0 := zs_iload_n (i := 1) C dX3_secondTo_0 rfl h1
    exact h0
  case hG =>
    intro as μ r h
    obtain ⟨x0, x1, rfl, h⟩ := g_X3_secondTo_i h
    exact ⟨Nat.le_of_ble_eq_true rfl, h⟩
theorem m_X3_secondTo (N : Nat) : zk_MV yX3_secondTo cX3_secondTo 2 (some .int) ({ frames := 1, cells := 0, slots := 0, locals := 23 } : Room) zq_I (g_X3_secondTo N) 1 3 := ⟨c_X3_secondTo N, zw_213, zw_211, zw_212, zw_27, rfl, rfl, by decide +kernel, by decide, ⟨TX3, 8, rfl⟩, fun as μ r h => by obtain ⟨x0, x1, rfl, -⟩ := g_X3_secondTo_i h; exact ⟨_, _, rfl⟩⟩
-- LongestWed$Town.worse(III)I
def f_X3_worse_J54 (N : Nat) (x0 : Nat) (x1 : Int32) (x5 : Int32) (x6 : Int32) (s0 : Int32) (μ : ZM) : Option (Int32 × ZM) :=
  if zk_o x1 7 = true then none else
  if (μ.1 (x0 + 1) (Int32.toNatClampNeg x1)) = 1 then
    some (x6, μ)
  else
  if (μ.1 (x0 + 1) (Int32.toNatClampNeg x1)) = 2 then
    some (s0, μ)
  else
  if (μ.1 (x0 + 1) (Int32.toNatClampNeg x1)) = 3 then
    if ¬ ((μ.1 x0 6) - (μ.1 x0 6) / 2 * 2) = 0 then
      some (0, μ)
    else
      some (x6, μ)
  else
  if (μ.1 (x0 + 1) (Int32.toNatClampNeg x1)) = 4 then
    if zk_o x1 7 = true then none else
    if (μ.1 (x0 + 4) (Int32.toNatClampNeg x1)) < (10 : Int32) then
      some (s0, μ)
    else
      some ((s0 + 3), μ)
  else
    some (x5, μ)
def k_X3_worse_J54 (N : Nat) : ZK (Int32 × ZM) := fun L st μ => match L, st with
  | [some (.inr (.inr (3, x0))), some (.inl x1), _, _, _, some (.inl x5), some (.inl x6), _], [.inl s0] => f_X3_worse_J54 N x0 x1 x5 x6 s0 μ
  | _, _ => none
theorem k_X3_worse_J54_i {N : Nat} {L : ZL} {st : List ZV} {μ : ZM} {r : Int32 × ZM} (h : k_X3_worse_J54 N L st μ = some r) : ∃ (x0 : Nat) (x1 : Int32) (x5 : Int32) (x6 : Int32) (s0 : Int32) (u2 : Option ZV) (u3 : Option ZV) (u4 : Option ZV) (u7 : Option ZV), L = [some (.inr (.inr (3, x0))), some (.inl x1), u2, u3, u4, some (.inl x5), some (.inl x6), u7] ∧ st = [.inl s0] ∧ f_X3_worse_J54 N x0 x1 x5 x6 s0 μ = some r := by
  unfold k_X3_worse_J54 at h
  split at h
  · exact ⟨_, _, _, _, _, _, _, _, _, rfl, rfl, h⟩
  · cases h
set_option maxRecDepth 100000 in
theorem s_X3_worse_J54 (N : Nat) {X : ZX} {E : ZE} (C : zk_X X E RX3 cX3_worse 8 (some .int) ({ frames := 0, cells := 0, slots := 0, locals := 0 } : Room)) : zk_S X E 8 zq_I 54 (k_X3_worse_J54 N) := by
  have h137 := zs_iret C dX3_worse_137
  have h135 := zs_iload (i := 5) C dX3_worse_135 h137
  have h134 := zs_iret C dX3_worse_134
  have h132 := zs_iload (i := 7) C dX3_worse_132 h134
  have h129 := zs_goto (tgt := 134) C dX3_worse_129 (by decide) h134
  have h128 := zs_iadd C dX3_worse_128 h129
  have h127 := zs_iconst (v := 3) C dX3_worse_127 (by decide) h128
  have h125 := zs_iload (i := 7) C dX3_worse_125 h127
  have h122 := zs_icmp_lt (tgt := 132) C dX3_worse_122 (by decide) h132 h125
  have h120 := zs_bipush (v := 10) C dX3_worse_120 (by decide) h122
  have h119 := zs_iald (n := 7) C dX3_worse_119 (by decide) h120
  have h118 := zs_iload_n (i := 1) C dX3_worse_118 rfl h119
  have h115 := zs_gR C dX3_worse_115 zf_3_3 zw_55 h118
  have h114 := zs_aload_n (i := 0) C dX3_worse_114 rfl h115
  have h113 := zs_iret C dX3_worse_113
  have h112 := zs_iconst (v := 0) C dX3_worse_112 (by decide) h113
  have h109 := zs_goto (tgt := 113) C dX3_worse_109 (by decide) h113
  have h107 := zs_iload (i := 6) C dX3_worse_107 h109
  have h104 := zs_if_ne (tgt := 112) C dX3_worse_104 (by decide) h112 h107
  have h103 := zs_irem C dX3_worse_103 h104
  have h102 := zs_iconst (v := 2) C dX3_worse_102 (by decide) h103
  have h99 := zs_gI C dX3_worse_99 zf_3_6 zw_61 h102
  have h98 := zs_aload_n (i := 0) C dX3_worse_98 rfl h99
  have h97 := zs_iret C dX3_worse_97
  have h95 := zs_iload (i := 7) C dX3_worse_95 h97
  have h94 := zs_iret C dX3_worse_94
  have h92 := zs_iload (i := 6) C dX3_worse_92 h94
  have h62 := zs_tab (q := zq_I) (cs := [(1, _), (2, _), (3, _), (4, _)]) (xs := [1, 2, 3, 4]) (tg := (fun x => if x = 1 then 92 else if x = 2 then 95 else if x = 3 then 98 else if x = 4 then 114 else 0)) (tgt := 135) C dX3_worse_62 (by decide) (by decide) rfl (by decide +kernel) (by decide +kernel) (List.forall_mem_cons.mpr ⟨h92, (List.forall_mem_cons.mpr ⟨h95, (List.forall_mem_cons.mpr ⟨h98, (List.forall_mem_cons.mpr ⟨h114, (fun _ h => absurd h List.not_mem_nil)⟩)⟩)⟩)⟩) h135
  have h61 := zs_iald (n := 7) C dX3_worse_61 (by decide) h62
  have h60 := zs_iload_n (i := 1) C dX3_worse_60 rfl h61
  have h57 := zs_gR C dX3_worse_57 zf_3_0 zw_49 h60
  have h56 := zs_aload_n (i := 0) C dX3_worse_56 rfl h57
  have h54 := zs_istore (i := 7) C dX3_worse_54 h56
  intro H locs ls L st μ r h hL hst hW hS
  obtain ⟨x0, x1, x5, x6, s0, u2, u3, u4, u7, rfl, rfl, h⟩ := k_X3_worse_J54_i h
  exact h54 H locs ls [some (.inr (.inr (3, x0))), some (.inl x1), none, none, none, some (.inl x5), some (.inl x6), none] [.inl s0] μ r h (hL.less ⟨rfl, rfl, rfl, rfl, trivial⟩) hst hW hS
def f_X3_worse_J38 (N : Nat) (x0 : Nat) (x1 : Int32) (x3 : Int32) (x5 : Int32) (s0 : Int32) (μ : ZM) : Option (Int32 × ZM) :=
  if ¬ x1 = x3 then
    f_X3_worse_J54 N x0 x1 x5 s0 x5 μ
  else
    f_X3_worse_J54 N x0 x1 x5 s0 (x5 - 2) μ
def k_X3_worse_J38 (N : Nat) : ZK (Int32 × ZM) := fun L st μ => match L, st with
  | [some (.inr (.inr (3, x0))), some (.inl x1), _, some (.inl x3), _, some (.inl x5), _, _], [.inl s0] => f_X3_worse_J38 N x0 x1 x3 x5 s0 μ
  | _, _ => none
theorem k_X3_worse_J38_i {N : Nat} {L : ZL} {st : List ZV} {μ : ZM} {r : Int32 × ZM} (h : k_X3_worse_J38 N L st μ = some r) : ∃ (x0 : Nat) (x1 : Int32) (x3 : Int32) (x5 : Int32) (s0 : Int32) (u2 : Option ZV) (u4 : Option ZV) (u6 : Option ZV) (u7 : Option ZV), L = [some (.inr (.inr (3, x0))), some (.inl x1), u2, some (.inl x3), u4, some (.inl x5), u6, u7] ∧ st = [.inl s0] ∧ f_X3_worse_J38 N x0 x1 x3 x5 s0 μ = some r := by
  unfold k_X3_worse_J38 at h
  split at h
  · exact ⟨_, _, _, _, _, _, _, _, _, rfl, rfl, h⟩
  · cases h
set_option maxRecDepth 100000 in
theorem s_X3_worse_J38 (N : Nat) {X : ZX} {E : ZE} (C : zk_X X E RX3 cX3_worse 8 (some .int) ({ frames := 0, cells := 0, slots := 0, locals := 0 } : Room)) : zk_S X E 8 zq_I 38 (k_X3_worse_J38 N) := by
  have e54 := s_X3_worse_J54 N C
  have h52 := zs_iload (i := 5) C dX3_worse_52 e54
  have h49 := zs_goto (tgt := 54) C dX3_worse_49 (by decide) e54
  have h48 := zs_isub C dX3_worse_48 h49
  have h47 := zs_iconst (v := 2) C dX3_worse_47 (by decide) h48
  have h45 := zs_iload (i := 5) C dX3_worse_45 h47
  have h42 := zs_icmp_ne (tgt := 52) C dX3_worse_42 (by decide) h52 h45
  have h41 := zs_iload_n (i := 3) C dX3_worse_41 rfl h42
  have h40 := zs_iload_n (i := 1) C dX3_worse_40 rfl h41
  have h38 := zs_istore (i := 6) C dX3_worse_38 h40
  intro H locs ls L st μ r h hL hst hW hS
  obtain ⟨x0, x1, x3, x5, s0, u2, u4, u6, u7, rfl, rfl, h⟩ := k_X3_worse_J38_i h
  exact h38 H locs ls [some (.inr (.inr (3, x0))), some (.inl x1), none, some (.inl x3), none, some (.inl x5), none, none] [.inl s0] μ r h (hL.less ⟨rfl, rfl, rfl, rfl, trivial⟩) hst hW hS
def f_X3_worse_J22 (N : Nat) (x0 : Nat) (x1 : Int32) (x3 : Int32) (x4 : Int32) (s0 : Int32) (μ : ZM) : Option (Int32 × ZM) :=
  if x4 = 0 then
    f_X3_worse_J38 N x0 x1 x3 s0 s0 μ
  else
    f_X3_worse_J38 N x0 x1 x3 s0 (s0 + 2) μ
def k_X3_worse_J22 (N : Nat) : ZK (Int32 × ZM) := fun L st μ => match L, st with
  | [some (.inr (.inr (3, x0))), some (.inl x1), _, some (.inl x3), some (.inl x4), _, _, _], [.inl s0] => f_X3_worse_J22 N x0 x1 x3 x4 s0 μ
  | _, _ => none
theorem k_X3_worse_J22_i {N : Nat} {L : ZL} {st : List ZV} {μ : ZM} {r : Int32 × ZM} (h : k_X3_worse_J22 N L st μ = some r) : ∃ (x0 : Nat) (x1 : Int32) (x3 : Int32) (x4 : Int32) (s0 : Int32) (u2 : Option ZV) (u5 : Option ZV) (u6 : Option ZV) (u7 : Option ZV), L = [some (.inr (.inr (3, x0))), some (.inl x1), u2, some (.inl x3), some (.inl x4), u5, u6, u7] ∧ st = [.inl s0] ∧ f_X3_worse_J22 N x0 x1 x3 x4 s0 μ = some r := by
  unfold k_X3_worse_J22 at h
  split at h
  · exact ⟨_, _, _, _, _, _, _, _, _, rfl, rfl, h⟩
  · cases h
set_option maxRecDepth 100000 in
theorem s_X3_worse_J22 (N : Nat) {X : ZX} {E : ZE} (C : zk_X X E RX3 cX3_worse 8 (some .int) ({ frames := 0, cells := 0, slots := 0, locals := 0 } : Room)) : zk_S X E 8 zq_I 22 (k_X3_worse_J22 N) := by
  have e38 := s_X3_worse_J38 N C
  have h36 := zs_iload (i := 5) C dX3_worse_36 e38
  have h33 := zs_goto (tgt := 38) C dX3_worse_33 (by decide) e38
  have h32 := zs_iadd C dX3_worse_32 h33
  have h31 := zs_iconst (v := 2) C dX3_worse_31 (by decide) h32
  have h29 := zs_iload (i := 5) C dX3_worse_29 h31
  have h26 := zs_if_eq (tgt := 36) C dX3_worse_26 (by decide) h36 h29
  have h24 := zs_iload (i := 4) C dX3_worse_24 h26
  have h22 := zs_istore (i := 5) C dX3_worse_22 h24
  intro H locs ls L st μ r h hL hst hW hS
  obtain ⟨x0, x1, x3, x4, s0, u2, u5, u6, u7, rfl, rfl, h⟩ := k_X3_worse_J22_i h
  exact h22 H locs ls [some (.inr (.inr (3, x0))), some (.inl x1), none, some (.inl x3), some (.inl x4), none, none, none] [.inl s0] μ r h (hL.less ⟨rfl, rfl, rfl, rfl, trivial⟩) hst hW hS
def f_X3_worse_J10 (N : Nat) (x0 : Nat) (x1 : Int32) (x3 : Int32) (s0 : Int32) (μ : ZM) : Option (Int32 × ZM) :=
  if s0 = 0 then
    f_X3_worse_J22 N x0 x1 x3 s0 (-1) μ
  else
    f_X3_worse_J22 N x0 x1 x3 s0 1 μ
def k_X3_worse_J10 (N : Nat) : ZK (Int32 × ZM) := fun L st μ => match L, st with
  | [some (.inr (.inr (3, x0))), some (.inl x1), _, some (.inl x3), _, _, _, _], [.inl s0] => f_X3_worse_J10 N x0 x1 x3 s0 μ
  | _, _ => none
theorem k_X3_worse_J10_i {N : Nat} {L : ZL} {st : List ZV} {μ : ZM} {r : Int32 × ZM} (h : k_X3_worse_J10 N L st μ = some r) : ∃ (x0 : Nat) (x1 : Int32) (x3 : Int32) (s0 : Int32) (u2 : Option ZV) (u4 : Option ZV) (u5 : Option ZV) (u6 : Option ZV) (u7 : Option ZV), L = [some (.inr (.inr (3, x0))), some (.inl x1), u2, some (.inl x3), u4, u5, u6, u7] ∧ st = [.inl s0] ∧ f_X3_worse_J10 N x0 x1 x3 s0 μ = some r := by
  unfold k_X3_worse_J10 at h
  split at h
  · exact ⟨_, _, _, _, _, _, _, _, _, rfl, rfl, h⟩
  · cases h
set_option maxRecDepth 100000 in
theorem s_X3_worse_J10 (N : Nat) {X : ZX} {E : ZE} (C : zk_X X E RX3 cX3_worse 8 (some .int) ({ frames := 0, cells := 0, slots := 0, locals := 0 } : Room)) : zk_S X E 8 zq_I 10 (k_X3_worse_J10 N) := by
  have e22 := s_X3_worse_J22 N C
  have h21 := zs_iconst (v := (-1)) C dX3_worse_21 (by decide) e22
  have h18 := zs_goto (tgt := 22) C dX3_worse_18 (by decide) e22
  have h17 := zs_iconst (v := 1) C dX3_worse_17 (by decide) h18
  have h14 := zs_if_eq (tgt := 21) C dX3_worse_14 (by decide) h21 h17
  have h12 := zs_iload (i := 4) C dX3_worse_12 h14
  have h10 := zs_istore (i := 4) C dX3_worse_10 h12
  intro H locs ls L st μ r h hL hst hW hS
  obtain ⟨x0, x1, x3, s0, u2, u4, u5, u6, u7, rfl, rfl, h⟩ := k_X3_worse_J10_i h
  exact h10 H locs ls [some (.inr (.inr (3, x0))), some (.inl x1), none, some (.inl x3), none, none, none, none] [.inl s0] μ r h (hL.less ⟨rfl, rfl, rfl, trivial⟩) hst hW hS
def f_X3_worse (N : Nat) (x0 : Nat) (x1 : Int32) (x2 : Int32) (x3 : Int32) (μ : ZM) : Option (Int32 × ZM) :=
  if ¬ x1 = x2 then
    f_X3_worse_J10 N x0 x1 x3 0 μ
  else
    f_X3_worse_J10 N x0 x1 x3 1 μ
def g_X3_worse (N : Nat) (as : List ZV) (μ : ZM) : Option (Int32 × ZM) := match as with
  | [.inr (.inr (3, x0)), .inl x1, .inl x2, .inl x3] => f_X3_worse N x0 x1 x2 x3 μ
  | _ => none
theorem g_X3_worse_i {N : Nat} {as : List ZV} {μ : ZM} {r : Int32 × ZM} (h : g_X3_worse N as μ = some r) : ∃ (x0 : Nat) (x1 : Int32) (x2 : Int32) (x3 : Int32), as = [.inr (.inr (3, x0)), .inl x1, .inl x2, .inl x3] ∧ f_X3_worse N x0 x1 x2 x3 μ = some r := by
  unfold g_X3_worse at h
  split at h
  · exact ⟨_, _, _, _, rfl, h⟩
  · cases h
set_option maxRecDepth 100000 in
theorem c_X3_worse (N : Nat) : zk_C yX3_worse cX3_worse 8 (some .int) ({ frames := 0, cells := 0, slots := 0, locals := 0 } : Room) zq_I (g_X3_worse N) := by
  refine zk_met ?κ (by decide +kernel) ?hG ?body
  case body =>
    intro X E C
    have C : zk_X X E RX3 cX3_worse 8 (some .int) ({ frames := 0, cells := 0, slots := 0, locals := 0 } : Room) := C
    have e10 := s_X3_worse_J10 N C
    have h9 := zs_iconst (v := 0) C dX3_worse_9 (by decide) e10
    have h6 := zs_goto (tgt := 10) C dX3_worse_6 (by decide) e10
    have h5 := zs_iconst (v := 1) C dX3_worse_5 (by decide) h6
    have h2 := zs_icmp_ne (tgt := 9) C dX3_worse_2 (by decide) h9 h5
    have h1 := zs_iload_n (i := 2) C dX3_worse_1 rfl h2
    have h0 := zs_iload_n (i := 1) C dX3_worse_0 rfl h1
    exact h0
  case hG =>
    intro as μ r h
    obtain ⟨x0, x1, x2, x3, rfl, h⟩ := g_X3_worse_i h
    exact ⟨Nat.le_of_ble_eq_true rfl, h⟩
theorem m_X3_worse (N : Nat) : zk_MV yX3_worse cX3_worse 8 (some .int) ({ frames := 0, cells := 0, slots := 0, locals := 0 } : Room) zq_I (g_X3_worse N) 3 3 := ⟨c_X3_worse N, zw_217, zw_215, zw_216, zw_27, rfl, rfl, by decide +kernel, by decide, ⟨TX3, 8, rfl⟩, fun as μ r h => by obtain ⟨x0, x1, x2, x3, rfl, -⟩ := g_X3_worse_i h; exact ⟨_, _, rfl⟩⟩
-- LongestWed$Town.worseThisYear(I)I
def f_X3_worseThisYear (N : Nat) (x0 : Nat) (x1 : Int32) (μ : ZM) : Option (Int32 × ZM) :=
  (f_X3_keeper N x0 μ).bind fun r1 =>
  (f_X3_isTogether N x0 x1 r1.2).bind fun r2 =>
  if r2.1 = 0 then
    some (0, r2.2)
  else
    (f_X3_secondTo N x0 r1.1 r2.2).bind fun r3 =>
    (f_X3_worse N x0 x1 r1.1 r3.1 r3.2).bind fun r4 =>
    some (r4.1, r4.2)
def g_X3_worseThisYear (N : Nat) (as : List ZV) (μ : ZM) : Option (Int32 × ZM) := match as with
  | [.inr (.inr (3, x0)), .inl x1] => f_X3_worseThisYear N x0 x1 μ
  | _ => none
theorem g_X3_worseThisYear_i {N : Nat} {as : List ZV} {μ : ZM} {r : Int32 × ZM} (h : g_X3_worseThisYear N as μ = some r) : ∃ (x0 : Nat) (x1 : Int32), as = [.inr (.inr (3, x0)), .inl x1] ∧ f_X3_worseThisYear N x0 x1 μ = some r := by
  unfold g_X3_worseThisYear at h
  split at h
  · exact ⟨_, _, rfl, h⟩
  · cases h
set_option maxRecDepth 100000 in
theorem c_X3_worseThisYear (N : Nat) : zk_C yX3_worseThisYear cX3_worseThisYear 3 (some .int) ({ frames := 2, cells := 0, slots := 0, locals := 44 } : Room) zq_I (g_X3_worseThisYear N) := by
  refine zk_met ?κ (by decide +kernel) ?hG ?body
  case body =>
    intro X E C
    have C : zk_X X E RX3 cX3_worseThisYear 3 (some .int) ({ frames := 2, cells := 0, slots := 0, locals := 44 } : Room) := C
    have h28 := zs_iret C dX3_worseThisYear_28
    have h27 := zs_iconst (v := 0) C dX3_worseThisYear_27 (by decide) h28
    have h24 := zs_goto (tgt := 28) C dX3_worseThisYear_24 (by decide) h28
    have h21 := zs_vI C dX3_worseThisYear_21 (m_X3_worse N) zw_214 ⟨Nat.le_of_ble_eq_true rfl, Nat.le_of_ble_eq_true rfl⟩ h24
    have h18 := zs_vI C dX3_worseThisYear_18 (m_X3_secondTo N) zw_210 ⟨Nat.le_of_ble_eq_true rfl, Nat.le_of_ble_eq_true rfl⟩ h21
    have h17 := zs_iload_n (i := 2) C dX3_worseThisYear_17 rfl h18
    have h16 := zs_aload_n (i := 0) C dX3_worseThisYear_16 rfl h17
    have h15 := zs_iload_n (i := 2) C dX3_worseThisYear_15 rfl h16
    have h14 := zs_iload_n (i := 1) C dX3_worseThisYear_14 rfl h15
    have h13 := zs_aload_n (i := 0) C dX3_worseThisYear_13 rfl h14
    have h10 := zs_if_eq (tgt := 27) C dX3_worseThisYear_10 (by decide) h27 h13
    have h7 := zs_vI C dX3_worseThisYear_7 (m_X3_isTogether N) zw_209 ⟨Nat.le_of_ble_eq_true rfl, Nat.le_of_ble_eq_true rfl⟩ h10
    have h6 := zs_iload_n (i := 1) C dX3_worseThisYear_6 rfl h7
    have h5 := zs_aload_n (i := 0) C dX3_worseThisYear_5 rfl h6
    have h4 := zs_istore_n (i := 2) C dX3_worseThisYear_4 rfl h5
    have h1 := zs_vI C dX3_worseThisYear_1 (m_X3_keeper N) zw_201 ⟨Nat.le_of_ble_eq_true rfl, Nat.le_of_ble_eq_true rfl⟩ h4
    have h0 := zs_aload_n (i := 0) C dX3_worseThisYear_0 rfl h1
    exact h0
  case hG =>
    intro as μ r h
    obtain ⟨x0, x1, rfl, h⟩ := g_X3_worseThisYear_i h
    exact ⟨Nat.le_of_ble_eq_true rfl, h⟩
theorem m_X3_worseThisYear (N : Nat) : zk_MV yX3_worseThisYear cX3_worseThisYear 3 (some .int) ({ frames := 2, cells := 0, slots := 0, locals := 44 } : Room) zq_I (g_X3_worseThisYear N) 1 3 := ⟨c_X3_worseThisYear N, zw_200, zw_198, zw_199, zw_27, rfl, rfl, by decide +kernel, by decide, ⟨TX3, 8, rfl⟩, fun as μ r h => by obtain ⟨x0, x1, rfl, -⟩ := g_X3_worseThisYear_i h; exact ⟨_, _, rfl⟩⟩
-- LongestWed$Town.empty()V
def f_X3_empty (N : Nat) (x0 : Nat) (μ : ZM) : Option (ZM) :=
  let μ1 := zk_si μ x0 4 0
  let μ2 := zk_si μ1 x0 5 0
  let μ3 := zk_si μ2 x0 6 0
  some μ3
def g_X3_empty (N : Nat) (as : List ZV) (μ : ZM) : Option (ZM) := match as with
  | [.inr (.inr (3, x0))] => f_X3_empty N x0 μ
  | _ => none
theorem g_X3_empty_i {N : Nat} {as : List ZV} {μ : ZM} {r : ZM} (h : g_X3_empty N as μ = some r) : ∃ (x0 : Nat), as = [.inr (.inr (3, x0))] ∧ f_X3_empty N x0 μ = some r := by
  unfold g_X3_empty at h
  split at h
  · exact ⟨_, rfl, h⟩
  · cases h
set_option maxRecDepth 100000 in
theorem c_X3_empty (N : Nat) : zk_C yX3_empty cX3_empty 1 none ({ frames := 0, cells := 0, slots := 0, locals := 0 } : Room) zq_V (g_X3_empty N) := by
  refine zk_met ?κ (by decide +kernel) ?hG ?body
  case body =>
    intro X E C
    have C : zk_X X E RX3 cX3_empty 1 none ({ frames := 0, cells := 0, slots := 0, locals := 0 } : Room) := C
    have h15 := zs_vret C dX3_empty_15
    have h12 := zs_pI C dX3_empty_12 zf_3_6 zw_61 rfl (by decide +kernel) h15
    have h11 := zs_iconst (v := 0) C dX3_empty_11 (by decide) h12
    have h10 := zs_aload_n (i := 0) C dX3_empty_10 rfl h11
    have h7 := zs_pI C dX3_empty_7 zf_3_5 zw_59 rfl (by decide +kernel) h10
    have h6 := zs_iconst (v := 0) C dX3_empty_6 (by decide) h7
    have h5 := zs_aload_n (i := 0) C dX3_empty_5 rfl h6
    have h2 := zs_pI C dX3_empty_2 zf_3_4 zw_57 rfl (by decide +kernel) h5
    have h1 := zs_iconst (v := 0) C dX3_empty_1 (by decide) h2
    have h0 := zs_aload_n (i := 0) C dX3_empty_0 rfl h1
    exact h0
  case hG =>
    intro as μ r h
    obtain ⟨x0, rfl, h⟩ := g_X3_empty_i h
    exact ⟨Nat.le_of_ble_eq_true rfl, h⟩
theorem m_X3_empty (N : Nat) : zk_MV yX3_empty cX3_empty 1 none ({ frames := 0, cells := 0, slots := 0, locals := 0 } : Room) zq_V (g_X3_empty N) 0 3 := ⟨c_X3_empty N, zw_233, zw_231, zw_232, zw_27, rfl, rfl, by decide +kernel, by decide, ⟨TX3, 8, rfl⟩, fun as μ r h => by obtain ⟨x0, rfl, -⟩ := g_X3_empty_i h; exact ⟨_, _, rfl⟩⟩
-- LongestWed$Town.become(LLongestWed$Town;)V
def f_X3_become (N : Nat) (x0 : Nat) (x1 : Nat) (μ : ZM) : Option (ZM) :=
  let μ1 := zk_ci μ (x1 + 1) (x0 + 1) 0 0 7
  let μ2 := zk_ci μ1 (x1 + 2) (x0 + 2) 0 0 7
  let μ3 := zk_ci μ2 (x1 + 3) (x0 + 3) 0 0 7
  let μ4 := zk_ci μ3 (x1 + 4) (x0 + 4) 0 0 7
  let μ5 := zk_si μ4 x0 4 (μ4.1 x1 4)
  let μ6 := zk_si μ5 x0 5 (μ5.1 x1 5)
  let μ7 := zk_si μ6 x0 6 (μ6.1 x1 6)
  let μ8 := zk_si μ7 x0 7 (μ7.1 x1 7)
  some μ8
def g_X3_become (N : Nat) (as : List ZV) (μ : ZM) : Option (ZM) := match as with
  | [.inr (.inr (3, x0)), .inr (.inr (3, x1))] => f_X3_become N x0 x1 μ
  | _ => none
theorem g_X3_become_i {N : Nat} {as : List ZV} {μ : ZM} {r : ZM} (h : g_X3_become N as μ = some r) : ∃ (x0 : Nat) (x1 : Nat), as = [.inr (.inr (3, x0)), .inr (.inr (3, x1))] ∧ f_X3_become N x0 x1 μ = some r := by
  unfold g_X3_become at h
  split at h
  · exact ⟨_, _, rfl, h⟩
  · cases h
set_option maxRecDepth 100000 in
theorem c_X3_become (N : Nat) : zk_C yX3_become cX3_become 2 none ({ frames := 1, cells := 0, slots := 0, locals := 26 } : Room) zq_V (g_X3_become N) := by
  refine zk_met ?κ (by decide +kernel) ?hG ?body
  case body =>
    intro X E C
    have C : zk_X X E RX3 cX3_become 2 none ({ frames := 1, cells := 0, slots := 0, locals := 26 } : Room) := C
    have h92 := zs_vret C dX3_become_92
    have h89 := zs_pI C dX3_become_89 zf_3_7 zw_63 rfl (by decide +kernel) h92
    have h86 := zs_gI C dX3_become_86 zf_3_7 zw_63 h89
    have h85 := zs_aload_n (i := 1) C dX3_become_85 rfl h86
    have h84 := zs_aload_n (i := 0) C dX3_become_84 rfl h85
    have h81 := zs_pI C dX3_become_81 zf_3_6 zw_61 rfl (by decide +kernel) h84
    have h78 := zs_gI C dX3_become_78 zf_3_6 zw_61 h81
    have h77 := zs_aload_n (i := 1) C dX3_become_77 rfl h78
    have h76 := zs_aload_n (i := 0) C dX3_become_76 rfl h77
    have h73 := zs_pI C dX3_become_73 zf_3_5 zw_59 rfl (by decide +kernel) h76
    have h70 := zs_gI C dX3_become_70 zf_3_5 zw_59 h73
    have h69 := zs_aload_n (i := 1) C dX3_become_69 rfl h70
    have h68 := zs_aload_n (i := 0) C dX3_become_68 rfl h69
    have h65 := zs_pI C dX3_become_65 zf_3_4 zw_57 rfl (by decide +kernel) h68
    have h62 := zs_gI C dX3_become_62 zf_3_4 zw_57 h65
    have h61 := zs_aload_n (i := 1) C dX3_become_61 rfl h62
    have h60 := zs_aload_n (i := 0) C dX3_become_60 rfl h61
    have h57 := zs_cpI (n0 := 7) (n1 := 7) C dX3_become_57 (by decide) (by decide) zw_273 zw_275 zw_274 zw_32 (Nat.le_of_ble_eq_true rfl) (Nat.le_of_ble_eq_true rfl) h60
    have h55 := zs_bipush (v := 7) C dX3_become_55 (by decide) h57
    have h54 := zs_iconst (v := 0) C dX3_become_54 (by decide) h55
    have h51 := zs_gR C dX3_become_51 zf_3_3 zw_55 h54
    have h50 := zs_aload_n (i := 0) C dX3_become_50 rfl h51
    have h49 := zs_iconst (v := 0) C dX3_become_49 (by decide) h50
    have h46 := zs_gR C dX3_become_46 zf_3_3 zw_55 h49
    have h45 := zs_aload_n (i := 1) C dX3_become_45 rfl h46
    have h42 := zs_cpI (n0 := 7) (n1 := 7) C dX3_become_42 (by decide) (by decide) zw_273 zw_275 zw_274 zw_32 (Nat.le_of_ble_eq_true rfl) (Nat.le_of_ble_eq_true rfl) h45
    have h40 := zs_bipush (v := 7) C dX3_become_40 (by decide) h42
    have h39 := zs_iconst (v := 0) C dX3_become_39 (by decide) h40
    have h36 := zs_gR C dX3_become_36 zf_3_2 zw_53 h39
    have h35 := zs_aload_n (i := 0) C dX3_become_35 rfl h36
    have h34 := zs_iconst (v := 0) C dX3_become_34 (by decide) h35
    have h31 := zs_gR C dX3_become_31 zf_3_2 zw_53 h34
    have h30 := zs_aload_n (i := 1) C dX3_become_30 rfl h31
    have h27 := zs_cpI (n0 := 7) (n1 := 7) C dX3_become_27 (by decide) (by decide) zw_273 zw_275 zw_274 zw_32 (Nat.le_of_ble_eq_true rfl) (Nat.le_of_ble_eq_true rfl) h30
    have h25 := zs_bipush (v := 7) C dX3_become_25 (by decide) h27
    have h24 := zs_iconst (v := 0) C dX3_become_24 (by decide) h25
    have h21 := zs_gR C dX3_become_21 zf_3_1 zw_51 h24
    have h20 := zs_aload_n (i := 0) C dX3_become_20 rfl h21
    have h19 := zs_iconst (v := 0) C dX3_become_19 (by decide) h20
    have h16 := zs_gR C dX3_become_16 zf_3_1 zw_51 h19
    have h15 := zs_aload_n (i := 1) C dX3_become_15 rfl h16
    have h12 := zs_cpI (n0 := 7) (n1 := 7) C dX3_become_12 (by decide) (by decide) zw_273 zw_275 zw_274 zw_32 (Nat.le_of_ble_eq_true rfl) (Nat.le_of_ble_eq_true rfl) h15
    have h10 := zs_bipush (v := 7) C dX3_become_10 (by decide) h12
    have h9 := zs_iconst (v := 0) C dX3_become_9 (by decide) h10
    have h6 := zs_gR C dX3_become_6 zf_3_0 zw_49 h9
    have h5 := zs_aload_n (i := 0) C dX3_become_5 rfl h6
    have h4 := zs_iconst (v := 0) C dX3_become_4 (by decide) h5
    have h1 := zs_gR C dX3_become_1 zf_3_0 zw_49 h4
    have h0 := zs_aload_n (i := 1) C dX3_become_0 rfl h1
    exact h0
  case hG =>
    intro as μ r h
    obtain ⟨x0, x1, rfl, h⟩ := g_X3_become_i h
    exact ⟨Nat.le_of_ble_eq_true rfl, h⟩
theorem m_X3_become (N : Nat) : zk_MV yX3_become cX3_become 2 none ({ frames := 1, cells := 0, slots := 0, locals := 26 } : Room) zq_V (g_X3_become N) 1 3 := ⟨c_X3_become N, zw_272, zw_270, zw_271, zw_27, rfl, rfl, by decide +kernel, by decide, ⟨TX3, 8, rfl⟩, fun as μ r h => by obtain ⟨x0, x1, rfl, -⟩ := g_X3_become_i h; exact ⟨_, _, rfl⟩⟩
-- LongestWed$Town.allTempers()I
def f_X3_allTempers_L4 (N : Nat) : Nat → Nat → Int32 → Int32 → ZM → Option (Int32 × ZM)
  | 0, _, _, _, _ => none
  | n + 1, x0, x1, x2, μ =>
    if (μ.1 x0 4) ≤ x2 then
      some (x1, μ)
    else
      (f_X3_isTogether N x0 x2 μ).bind fun r1 =>
      if r1.1 = 0 then
        f_X3_allTempers_L4 N n x0 x1 (x2 + 1) r1.2
      else
        if zk_o x2 7 = true then none else
        f_X3_allTempers_L4 N n x0 (x1 + (r1.2.1 (x0 + 4) (Int32.toNatClampNeg x2))) (x2 + 1) r1.2
def k_X3_allTempers_L4 (N n : Nat) : ZK (Int32 × ZM) := fun L st μ => match L, st with
  | [some (.inr (.inr (3, x0))), some (.inl x1), some (.inl x2)], [] => f_X3_allTempers_L4 N n x0 x1 x2 μ
  | _, _ => none
theorem k_X3_allTempers_L4_i {N : Nat} {n : Nat} {L : ZL} {st : List ZV} {μ : ZM} {r : Int32 × ZM} (h : k_X3_allTempers_L4 N n L st μ = some r) : ∃ (x0 : Nat) (x1 : Int32) (x2 : Int32), L = [some (.inr (.inr (3, x0))), some (.inl x1), some (.inl x2)] ∧ st = [] ∧ f_X3_allTempers_L4 N n x0 x1 x2 μ = some r := by
  unfold k_X3_allTempers_L4 at h
  split at h
  · exact ⟨_, _, _, rfl, rfl, h⟩
  · cases h
set_option maxRecDepth 100000 in
theorem s_X3_allTempers_L4 (N : Nat) {X : ZX} {E : ZE} (C : zk_X X E RX3 cX3_allTempers 3 (some .int) ({ frames := 1, cells := 0, slots := 0, locals := 21 } : Room)) : ∀ n, zk_S X E 3 zq_I 4 (k_X3_allTempers_L4 N n) := by
  intro n
  induction n with
  | zero =>
    intro H locs ls L st μ r h hL hst hW hS
    obtain ⟨x0, x1, x2, rfl, rfl, h⟩ := k_X3_allTempers_L4_i h
    exact nomatch (show none = some r from h)
  | succ n ih =>
    have h36 := zs_iret C dX3_allTempers_36
    have h35 := zs_iload_n (i := 1) C dX3_allTempers_35 rfl h36
    have h32 := zs_goto (tgt := 4) C dX3_allTempers_32 (by decide) ih
    have h29 := zs_iinc (n := 1) C dX3_allTempers_29 (by decide) h32
    have h28 := zs_istore_n (i := 1) C dX3_allTempers_28 rfl h29
    have h27 := zs_iadd C dX3_allTempers_27 h28
    have h26 := zs_iald (n := 7) C dX3_allTempers_26 (by decide) h27
    have h25 := zs_iload_n (i := 2) C dX3_allTempers_25 rfl h26
    have h22 := zs_gR C dX3_allTempers_22 zf_3_3 zw_55 h25
    have h21 := zs_aload_n (i := 0) C dX3_allTempers_21 rfl h22
    have h20 := zs_iload_n (i := 1) C dX3_allTempers_20 rfl h21
    have h17 := zs_if_eq (tgt := 29) C dX3_allTempers_17 (by decide) h29 h20
    have h14 := zs_vI C dX3_allTempers_14 (m_X3_isTogether N) zw_209 ⟨Nat.le_of_ble_eq_true rfl, Nat.le_of_ble_eq_true rfl⟩ h17
    have h13 := zs_iload_n (i := 2) C dX3_allTempers_13 rfl h14
    have h12 := zs_aload_n (i := 0) C dX3_allTempers_12 rfl h13
    have h9 := zs_icmp_ge (tgt := 35) C dX3_allTempers_9 (by decide) h35 h12
    have h6 := zs_gI C dX3_allTempers_6 zf_3_4 zw_57 h9
    have h5 := zs_aload_n (i := 0) C dX3_allTempers_5 rfl h6
    have h4 := zs_iload_n (i := 2) C dX3_allTempers_4 rfl h5
    intro H locs ls L st μ r h hL hst hW hS
    obtain ⟨x0, x1, x2, rfl, rfl, h⟩ := k_X3_allTempers_L4_i h
    exact h4 H locs ls [some (.inr (.inr (3, x0))), some (.inl x1), some (.inl x2)] [] μ r h (hL.less ⟨rfl, rfl, rfl, trivial⟩) hst hW hS
def f_X3_allTempers (N : Nat) (x0 : Nat) (μ : ZM) : Option (Int32 × ZM) :=
  f_X3_allTempers_L4 N N x0 0 0 μ
def g_X3_allTempers (N : Nat) (as : List ZV) (μ : ZM) : Option (Int32 × ZM) := match as with
  | [.inr (.inr (3, x0))] => f_X3_allTempers N x0 μ
  | _ => none
theorem g_X3_allTempers_i {N : Nat} {as : List ZV} {μ : ZM} {r : Int32 × ZM} (h : g_X3_allTempers N as μ = some r) : ∃ (x0 : Nat), as = [.inr (.inr (3, x0))] ∧ f_X3_allTempers N x0 μ = some r := by
  unfold g_X3_allTempers at h
  split at h
  · exact ⟨_, rfl, h⟩
  · cases h
set_option maxRecDepth 100000 in
theorem c_X3_allTempers (N : Nat) : zk_C yX3_allTempers cX3_allTempers 3 (some .int) ({ frames := 1, cells := 0, slots := 0, locals := 21 } : Room) zq_I (g_X3_allTempers N) := by
  refine zk_met ?κ (by decide +kernel) ?hG ?body
  case body =>
    intro X E C
    have C : zk_X X E RX3 cX3_allTempers 3 (some .int) ({ frames := 1, cells := 0, slots := 0, locals := 21 } : Room) := C
    have e4 := s_X3_allTempers_L4 N C N
    have h3 := zs_istore_n (i := 2) C dX3_allTempers_3 rfl e4
    have h2 := zs_iconst (v := 0) C dX3_allTempers_2 (by decide) h3
    have h1 := zs_istore_n (i := 1) C dX3_allTempers_1 rfl h2
    have h0 := zs_iconst (v := 0) C dX3_allTempers_0 (by decide) h1
    exact h0
  case hG =>
    intro as μ r h
    obtain ⟨x0, rfl, h⟩ := g_X3_allTempers_i h
    exact ⟨Nat.le_of_ble_eq_true rfl, h⟩
theorem m_X3_allTempers (N : Nat) : zk_MV yX3_allTempers cX3_allTempers 3 (some .int) ({ frames := 1, cells := 0, slots := 0, locals := 21 } : Room) zq_I (g_X3_allTempers N) 0 3 := ⟨c_X3_allTempers N, zw_285, zw_283, zw_284, zw_27, rfl, rfl, by decide +kernel, by decide, ⟨TX3, 8, rfl⟩, fun as μ r h => by obtain ⟨x0, rfl, -⟩ := g_X3_allTempers_i h; exact ⟨_, _, rfl⟩⟩
-- LongestWed$Town.worsen(II)V
def f_X3_worsen_J40 (N : Nat) (x0 : Nat) (x1 : Int32) (μ : ZM) : Option (ZM) :=
  let μ1 := zk_si μ x0 5 ((μ.1 x0 5) &&& ((1 <<< (x1 &&& 31)) ^^^ (-1)))
  if zk_o x1 7 = true then none else
  if zk_o x1 7 = true then none else
  let μ2 := zk_si μ1 (x0 + 4) (Int32.toNatClampNeg x1) (if (μ1.1 (x0 + 4) (Int32.toNatClampNeg x1)) < 19 then (μ1.1 (x0 + 4) (Int32.toNatClampNeg x1)) else 19)
  if zk_o x1 7 = true then none else
  if zk_o x1 7 = true then none else
  let μ3 := zk_si μ2 (x0 + 3) (Int32.toNatClampNeg x1) (if (μ2.1 (x0 + 3) (Int32.toNatClampNeg x1)) < 99 then (μ2.1 (x0 + 3) (Int32.toNatClampNeg x1)) else 99)
  some μ3
def k_X3_worsen_J40 (N : Nat) : ZK (ZM) := fun L st μ => match L, st with
  | [some (.inr (.inr (3, x0))), some (.inl x1), _], [] => f_X3_worsen_J40 N x0 x1 μ
  | _, _ => none
theorem k_X3_worsen_J40_i {N : Nat} {L : ZL} {st : List ZV} {μ : ZM} {r : ZM} (h : k_X3_worsen_J40 N L st μ = some r) : ∃ (x0 : Nat) (x1 : Int32) (u2 : Option ZV), L = [some (.inr (.inr (3, x0))), some (.inl x1), u2] ∧ st = [] ∧ f_X3_worsen_J40 N x0 x1 μ = some r := by
  unfold k_X3_worsen_J40 at h
  split at h
  · exact ⟨_, _, _, rfl, rfl, h⟩
  · cases h
set_option maxRecDepth 100000 in
theorem s_X3_worsen_J40 (N : Nat) {X : ZX} {E : ZE} (C : zk_X X E RX3 cX3_worsen 3 none ({ frames := 1, cells := 0, slots := 0, locals := 21 } : Room)) : zk_S X E 3 zq_V 40 (k_X3_worsen_J40 N) := by
  have h88 := zs_vret C dX3_worsen_88
  have h87 := zs_iast (n := 7) C dX3_worsen_87 (by decide) h88
  have h84 := zs_mmin C dX3_worsen_84 zw_302 zw_296 zw_33 zw_297 (Nat.le_of_ble_eq_true rfl) (Nat.le_of_ble_eq_true rfl) h87
  have h83 := zs_iald (n := 7) C dX3_worsen_83 (by decide) h84
  have h82 := zs_iload_n (i := 1) C dX3_worsen_82 rfl h83
  have h79 := zs_gR C dX3_worsen_79 zf_3_2 zw_53 h82
  have h78 := zs_aload_n (i := 0) C dX3_worsen_78 rfl h79
  have h76 := zs_bipush (v := 99) C dX3_worsen_76 (by decide) h78
  have h75 := zs_iload_n (i := 1) C dX3_worsen_75 rfl h76
  have h72 := zs_gR C dX3_worsen_72 zf_3_2 zw_53 h75
  have h71 := zs_aload_n (i := 0) C dX3_worsen_71 rfl h72
  have h70 := zs_iast (n := 7) C dX3_worsen_70 (by decide) h71
  have h67 := zs_mmin C dX3_worsen_67 zw_302 zw_296 zw_33 zw_297 (Nat.le_of_ble_eq_true rfl) (Nat.le_of_ble_eq_true rfl) h70
  have h66 := zs_iald (n := 7) C dX3_worsen_66 (by decide) h67
  have h65 := zs_iload_n (i := 1) C dX3_worsen_65 rfl h66
  have h62 := zs_gR C dX3_worsen_62 zf_3_3 zw_55 h65
  have h61 := zs_aload_n (i := 0) C dX3_worsen_61 rfl h62
  have h59 := zs_bipush (v := 19) C dX3_worsen_59 (by decide) h61
  have h58 := zs_iload_n (i := 1) C dX3_worsen_58 rfl h59
  have h55 := zs_gR C dX3_worsen_55 zf_3_3 zw_55 h58
  have h54 := zs_aload_n (i := 0) C dX3_worsen_54 rfl h55
  have h51 := zs_pI C dX3_worsen_51 zf_3_5 zw_59 rfl (by decide +kernel) h54
  have h50 := zs_iand C dX3_worsen_50 h51
  have h49 := zs_ixor C dX3_worsen_49 h50
  have h48 := zs_iconst (v := (-1)) C dX3_worsen_48 (by decide) h49
  have h47 := zs_ishl C dX3_worsen_47 h48
  have h46 := zs_iload_n (i := 1) C dX3_worsen_46 rfl h47
  have h45 := zs_iconst (v := 1) C dX3_worsen_45 (by decide) h46
  have h42 := zs_gI C dX3_worsen_42 zf_3_5 zw_59 h45
  have h41 := zs_dup C dX3_worsen_41 h42
  have h40 := zs_aload_n (i := 0) C dX3_worsen_40 rfl h41
  intro H locs ls L st μ r h hL hst hW hS
  obtain ⟨x0, x1, u2, rfl, rfl, h⟩ := k_X3_worsen_J40_i h
  exact h40 H locs ls [some (.inr (.inr (3, x0))), some (.inl x1), none] [] μ r h (hL.less ⟨rfl, rfl, trivial⟩) hst hW hS
def f_X3_worsen (N : Nat) (x0 : Nat) (x1 : Int32) (x2 : Int32) (μ : ZM) : Option (ZM) :=
  if zk_o x1 7 = true then none else
  if zk_o x1 7 = true then none else
  let μ1 := zk_si μ (x0 + 4) (Int32.toNatClampNeg x1) (if (0 : Int32) < ((μ.1 (x0 + 4) (Int32.toNatClampNeg x1)) + x2) then ((μ.1 (x0 + 4) (Int32.toNatClampNeg x1)) + x2) else 0)
  if zk_o x1 7 = true then none else
  if (19 : Int32) < (μ1.1 (x0 + 4) (Int32.toNatClampNeg x1)) then
    f_X3_worsen_J40 N x0 x1 μ1
  else
    if zk_o x1 7 = true then none else
    if (μ1.1 (x0 + 3) (Int32.toNatClampNeg x1)) ≤ (99 : Int32) then
      some μ1
    else
      f_X3_worsen_J40 N x0 x1 μ1
def g_X3_worsen (N : Nat) (as : List ZV) (μ : ZM) : Option (ZM) := match as with
  | [.inr (.inr (3, x0)), .inl x1, .inl x2] => f_X3_worsen N x0 x1 x2 μ
  | _ => none
theorem g_X3_worsen_i {N : Nat} {as : List ZV} {μ : ZM} {r : ZM} (h : g_X3_worsen N as μ = some r) : ∃ (x0 : Nat) (x1 : Int32) (x2 : Int32), as = [.inr (.inr (3, x0)), .inl x1, .inl x2] ∧ f_X3_worsen N x0 x1 x2 μ = some r := by
  unfold g_X3_worsen at h
  split at h
  · exact ⟨_, _, _, rfl, h⟩
  · cases h
set_option maxRecDepth 100000 in
theorem c_X3_worsen (N : Nat) : zk_C yX3_worsen cX3_worsen 3 none ({ frames := 1, cells := 0, slots := 0, locals := 21 } : Room) zq_V (g_X3_worsen N) := by
  refine zk_met ?κ (by decide +kernel) ?hG ?body
  case body =>
    intro X E C
    have C : zk_X X E RX3 cX3_worsen 3 none ({ frames := 1, cells := 0, slots := 0, locals := 21 } : Room) := C
    have e40 := s_X3_worsen_J40 N C
    have h88 := zs_vret C dX3_worsen_88
    have h37 := zs_icmp_le (tgt := 88) C dX3_worsen_37 (by decide) h88 e40
    have h35 := zs_bipush (v := 99) C dX3_worsen_35 (by decide) h37
    have h34 := zs_iald (n := 7) C dX3_worsen_34 (by decide) h35
    have h33 := zs_iload_n (i := 1) C dX3_worsen_33 rfl h34
    have h30 := zs_gR C dX3_worsen_30 zf_3_2 zw_53 h33
    have h29 := zs_aload_n (i := 0) C dX3_worsen_29 rfl h30
    have h26 := zs_icmp_gt (tgt := 40) C dX3_worsen_26 (by decide) e40 h29
    have h24 := zs_bipush (v := 19) C dX3_worsen_24 (by decide) h26
    have h23 := zs_iald (n := 7) C dX3_worsen_23 (by decide) h24
    have h22 := zs_iload_n (i := 1) C dX3_worsen_22 rfl h23
    have h19 := zs_gR C dX3_worsen_19 zf_3_3 zw_55 h22
    have h18 := zs_aload_n (i := 0) C dX3_worsen_18 rfl h19
    have h17 := zs_iast (n := 7) C dX3_worsen_17 (by decide) h18
    have h14 := zs_mmax C dX3_worsen_14 zw_307 zw_308 zw_33 zw_309 (Nat.le_of_ble_eq_true rfl) (Nat.le_of_ble_eq_true rfl) h17
    have h13 := zs_iadd C dX3_worsen_13 h14
    have h12 := zs_iload_n (i := 2) C dX3_worsen_12 rfl h13
    have h11 := zs_iald (n := 7) C dX3_worsen_11 (by decide) h12
    have h10 := zs_iload_n (i := 1) C dX3_worsen_10 rfl h11
    have h7 := zs_gR C dX3_worsen_7 zf_3_3 zw_55 h10
    have h6 := zs_aload_n (i := 0) C dX3_worsen_6 rfl h7
    have h5 := zs_iconst (v := 0) C dX3_worsen_5 (by decide) h6
    have h4 := zs_iload_n (i := 1) C dX3_worsen_4 rfl h5
    have h1 := zs_gR C dX3_worsen_1 zf_3_3 zw_55 h4
    have h0 := zs_aload_n (i := 0) C dX3_worsen_0 rfl h1
    exact h0
  case hG =>
    intro as μ r h
    obtain ⟨x0, x1, x2, rfl, h⟩ := g_X3_worsen_i h
    exact ⟨Nat.le_of_ble_eq_true rfl, h⟩
theorem m_X3_worsen (N : Nat) : zk_MV yX3_worsen cX3_worsen 3 none ({ frames := 1, cells := 0, slots := 0, locals := 21 } : Room) zq_V (g_X3_worsen N) 2 3 := ⟨c_X3_worsen N, zw_306, zw_304, zw_305, zw_27, rfl, rfl, by decide +kernel, by decide, ⟨TX3, 8, rfl⟩, fun as μ r h => by obtain ⟨x0, x1, x2, rfl, -⟩ := g_X3_worsen_i h; exact ⟨_, _, rfl⟩⟩
-- LongestWed$Town.passYear()V
def f_X3_passYear_L13 (N : Nat) : Nat → Nat → Int32 → Int32 → Int32 → ZM → Option (ZM)
  | 0, _, _, _, _, _ => none
  | n + 1, x0, x1, x2, x3, μ =>
    if (μ.1 x0 4) ≤ x3 then
      let μ1 := zk_si μ x0 6 ((μ.1 x0 6) + 1)
      some μ1
    else
      (f_X3_isTogether N x0 x3 μ).bind fun r2 =>
      if r2.1 = 0 then
        f_X3_passYear_L13 N n x0 x1 x2 (x3 + 1) r2.2
      else
        (f_X3_worse N x0 x3 x1 x2 r2.2).bind fun r3 =>
        if zk_o x3 7 = true then none else
        if zk_o x3 7 = true then none else
        let μ4 := zk_si r3.2 (x0 + 2) (Int32.toNatClampNeg x3) (if ((r3.2.1 (x0 + 2) (Int32.toNatClampNeg x3)) + 1) < 99 then ((r3.2.1 (x0 + 2) (Int32.toNatClampNeg x3)) + 1) else 99)
        if zk_o x3 7 = true then none else
        if zk_o x3 7 = true then none else
        let μ5 := zk_si μ4 (x0 + 3) (Int32.toNatClampNeg x3) ((μ4.1 (x0 + 3) (Int32.toNatClampNeg x3)) + 1)
        (f_X3_worsen N x0 x3 r3.1 μ5).bind fun r6 =>
        f_X3_passYear_L13 N n x0 x1 x2 (x3 + 1) r6
def k_X3_passYear_L13 (N n : Nat) : ZK (ZM) := fun L st μ => match L, st with
  | [some (.inr (.inr (3, x0))), some (.inl x1), some (.inl x2), some (.inl x3), _], [] => f_X3_passYear_L13 N n x0 x1 x2 x3 μ
  | _, _ => none
theorem k_X3_passYear_L13_i {N : Nat} {n : Nat} {L : ZL} {st : List ZV} {μ : ZM} {r : ZM} (h : k_X3_passYear_L13 N n L st μ = some r) : ∃ (x0 : Nat) (x1 : Int32) (x2 : Int32) (x3 : Int32) (u4 : Option ZV), L = [some (.inr (.inr (3, x0))), some (.inl x1), some (.inl x2), some (.inl x3), u4] ∧ st = [] ∧ f_X3_passYear_L13 N n x0 x1 x2 x3 μ = some r := by
  unfold k_X3_passYear_L13 at h
  split at h
  · exact ⟨_, _, _, _, _, rfl, rfl, h⟩
  · cases h
set_option maxRecDepth 100000 in
theorem s_X3_passYear_L13 (N : Nat) {X : ZX} {E : ZE} (C : zk_X X E RX3 cX3_passYear 5 none ({ frames := 2, cells := 0, slots := 0, locals := 44 } : Room)) : ∀ n, zk_S X E 5 zq_V 13 (k_X3_passYear_L13 N n) := by
  intro n
  induction n with
  | zero =>
    intro H locs ls L st μ r h hL hst hW hS
    obtain ⟨x0, x1, x2, x3, u4, rfl, rfl, h⟩ := k_X3_passYear_L13_i h
    exact nomatch (show none = some r from h)
  | succ n ih =>
    have h90 := zs_vret C dX3_passYear_90
    have h87 := zs_pI C dX3_passYear_87 zf_3_6 zw_61 rfl (by decide +kernel) h90
    have h86 := zs_iadd C dX3_passYear_86 h87
    have h85 := zs_iconst (v := 1) C dX3_passYear_85 (by decide) h86
    have h82 := zs_gI C dX3_passYear_82 zf_3_6 zw_61 h85
    have h81 := zs_dup C dX3_passYear_81 h82
    have h80 := zs_aload_n (i := 0) C dX3_passYear_80 rfl h81
    have h77 := zs_goto (tgt := 13) C dX3_passYear_77 (by decide) ih
    have h74 := zs_iinc (n := 1) C dX3_passYear_74 (by decide) h77
    have h71 := zs_vV C dX3_passYear_71 (m_X3_worsen N) zw_303 ⟨Nat.le_of_ble_eq_true rfl, Nat.le_of_ble_eq_true rfl⟩ h74
    have h69 := zs_iload (i := 4) C dX3_passYear_69 h71
    have h68 := zs_iload_n (i := 3) C dX3_passYear_68 rfl h69
    have h67 := zs_aload_n (i := 0) C dX3_passYear_67 rfl h68
    have h66 := zs_iast (n := 7) C dX3_passYear_66 (by decide) h67
    have h65 := zs_iadd C dX3_passYear_65 h66
    have h64 := zs_iconst (v := 1) C dX3_passYear_64 (by decide) h65
    have h63 := zs_iald (n := 7) C dX3_passYear_63 (by decide) h64
    have h62 := zs_dup2 C dX3_passYear_62 h63
    have h61 := zs_iload_n (i := 3) C dX3_passYear_61 rfl h62
    have h58 := zs_gR C dX3_passYear_58 zf_3_2 zw_53 h61
    have h57 := zs_aload_n (i := 0) C dX3_passYear_57 rfl h58
    have h56 := zs_iast (n := 7) C dX3_passYear_56 (by decide) h57
    have h53 := zs_mmin C dX3_passYear_53 zw_302 zw_296 zw_33 zw_297 (Nat.le_of_ble_eq_true rfl) (Nat.le_of_ble_eq_true rfl) h56
    have h52 := zs_iadd C dX3_passYear_52 h53
    have h51 := zs_iconst (v := 1) C dX3_passYear_51 (by decide) h52
    have h50 := zs_iald (n := 7) C dX3_passYear_50 (by decide) h51
    have h49 := zs_iload_n (i := 3) C dX3_passYear_49 rfl h50
    have h46 := zs_gR C dX3_passYear_46 zf_3_1 zw_51 h49
    have h45 := zs_aload_n (i := 0) C dX3_passYear_45 rfl h46
    have h43 := zs_bipush (v := 99) C dX3_passYear_43 (by decide) h45
    have h42 := zs_iload_n (i := 3) C dX3_passYear_42 rfl h43
    have h39 := zs_gR C dX3_passYear_39 zf_3_1 zw_51 h42
    have h38 := zs_aload_n (i := 0) C dX3_passYear_38 rfl h39
    have h36 := zs_istore (i := 4) C dX3_passYear_36 h38
    have h33 := zs_vI C dX3_passYear_33 (m_X3_worse N) zw_214 ⟨Nat.le_of_ble_eq_true rfl, Nat.le_of_ble_eq_true rfl⟩ h36
    have h32 := zs_iload_n (i := 2) C dX3_passYear_32 rfl h33
    have h31 := zs_iload_n (i := 1) C dX3_passYear_31 rfl h32
    have h30 := zs_iload_n (i := 3) C dX3_passYear_30 rfl h31
    have h29 := zs_aload_n (i := 0) C dX3_passYear_29 rfl h30
    have h26 := zs_if_eq (tgt := 74) C dX3_passYear_26 (by decide) h74 h29
    have h23 := zs_vI C dX3_passYear_23 (m_X3_isTogether N) zw_209 ⟨Nat.le_of_ble_eq_true rfl, Nat.le_of_ble_eq_true rfl⟩ h26
    have h22 := zs_iload_n (i := 3) C dX3_passYear_22 rfl h23
    have h21 := zs_aload_n (i := 0) C dX3_passYear_21 rfl h22
    have h18 := zs_icmp_ge (tgt := 80) C dX3_passYear_18 (by decide) h80 h21
    have h15 := zs_gI C dX3_passYear_15 zf_3_4 zw_57 h18
    have h14 := zs_aload_n (i := 0) C dX3_passYear_14 rfl h15
    have h13 := zs_iload_n (i := 3) C dX3_passYear_13 rfl h14
    intro H locs ls L st μ r h hL hst hW hS
    obtain ⟨x0, x1, x2, x3, u4, rfl, rfl, h⟩ := k_X3_passYear_L13_i h
    exact h13 H locs ls [some (.inr (.inr (3, x0))), some (.inl x1), some (.inl x2), some (.inl x3), none] [] μ r h (hL.less ⟨rfl, rfl, rfl, rfl, trivial⟩) hst hW hS
def f_X3_passYear (N : Nat) (x0 : Nat) (μ : ZM) : Option (ZM) :=
  (f_X3_keeper N x0 μ).bind fun r1 =>
  (f_X3_secondTo N x0 r1.1 r1.2).bind fun r2 =>
  f_X3_passYear_L13 N N x0 r1.1 r2.1 0 r2.2
def g_X3_passYear (N : Nat) (as : List ZV) (μ : ZM) : Option (ZM) := match as with
  | [.inr (.inr (3, x0))] => f_X3_passYear N x0 μ
  | _ => none
theorem g_X3_passYear_i {N : Nat} {as : List ZV} {μ : ZM} {r : ZM} (h : g_X3_passYear N as μ = some r) : ∃ (x0 : Nat), as = [.inr (.inr (3, x0))] ∧ f_X3_passYear N x0 μ = some r := by
  unfold g_X3_passYear at h
  split at h
  · exact ⟨_, rfl, h⟩
  · cases h
set_option maxRecDepth 100000 in
theorem c_X3_passYear (N : Nat) : zk_C yX3_passYear cX3_passYear 5 none ({ frames := 2, cells := 0, slots := 0, locals := 44 } : Room) zq_V (g_X3_passYear N) := by
  refine zk_met ?κ (by decide +kernel) ?hG ?body
  case body =>
    intro X E C
    have C : zk_X X E RX3 cX3_passYear 5 none ({ frames := 2, cells := 0, slots := 0, locals := 44 } : Room) := C
    have e13 := s_X3_passYear_L13 N C N
    have h12 := zs_istore_n (i := 3) C dX3_passYear_12 rfl e13
    have h11 := zs_iconst (v := 0) C dX3_passYear_11 (by decide) h12
    have h10 := zs_istore_n (i := 2) C dX3_passYear_10 rfl h11
    have h7 := zs_vI C dX3_passYear_7 (m_X3_secondTo N) zw_210 ⟨Nat.le_of_ble_eq_true rfl, Nat.le_of_ble_eq_true rfl⟩ h10
    have h6 := zs_iload_n (i := 1) C dX3_passYear_6 rfl h7
    have h5 := zs_aload_n (i := 0) C dX3_passYear_5 rfl h6
    have h4 := zs_istore_n (i := 1) C dX3_passYear_4 rfl h5
    have h1 := zs_vI C dX3_passYear_1 (m_X3_keeper N) zw_201 ⟨Nat.le_of_ble_eq_true rfl, Nat.le_of_ble_eq_true rfl⟩ h4
    have h0 := zs_aload_n (i := 0) C dX3_passYear_0 rfl h1
    exact h0
  case hG =>
    intro as μ r h
    obtain ⟨x0, rfl, h⟩ := g_X3_passYear_i h
    exact ⟨Nat.le_of_ble_eq_true rfl, h⟩
theorem m_X3_passYear (N : Nat) : zk_MV yX3_passYear cX3_passYear 5 none ({ frames := 2, cells := 0, slots := 0, locals := 44 } : Room) zq_V (g_X3_passYear N) 0 3 := ⟨c_X3_passYear N, zw_301, zw_299, zw_300, zw_27, rfl, rfl, by decide +kernel, by decide, ⟨TX3, 8, rfl⟩, fun as μ r h => by obtain ⟨x0, rfl, -⟩ := g_X3_passYear_i h; exact ⟨_, _, rfl⟩⟩
-- LongestWed$Town.better(II)V
def f_X3_better (N : Nat) (x0 : Nat) (x1 : Int32) (x2 : Int32) (μ : ZM) : Option (ZM) :=
  if zk_o x1 7 = true then none else
  if zk_o x1 7 = true then none else
  let μ1 := zk_si μ (x0 + 4) (Int32.toNatClampNeg x1) (if (0 : Int32) < ((μ.1 (x0 + 4) (Int32.toNatClampNeg x1)) - x2) then ((μ.1 (x0 + 4) (Int32.toNatClampNeg x1)) - x2) else 0)
  some μ1
def g_X3_better (N : Nat) (as : List ZV) (μ : ZM) : Option (ZM) := match as with
  | [.inr (.inr (3, x0)), .inl x1, .inl x2] => f_X3_better N x0 x1 x2 μ
  | _ => none
theorem g_X3_better_i {N : Nat} {as : List ZV} {μ : ZM} {r : ZM} (h : g_X3_better N as μ = some r) : ∃ (x0 : Nat) (x1 : Int32) (x2 : Int32), as = [.inr (.inr (3, x0)), .inl x1, .inl x2] ∧ f_X3_better N x0 x1 x2 μ = some r := by
  unfold g_X3_better at h
  split at h
  · exact ⟨_, _, _, rfl, h⟩
  · cases h
set_option maxRecDepth 100000 in
theorem c_X3_better (N : Nat) : zk_C yX3_better cX3_better 3 none ({ frames := 1, cells := 0, slots := 0, locals := 21 } : Room) zq_V (g_X3_better N) := by
  refine zk_met ?κ (by decide +kernel) ?hG ?body
  case body =>
    intro X E C
    have C : zk_X X E RX3 cX3_better 3 none ({ frames := 1, cells := 0, slots := 0, locals := 21 } : Room) := C
    have h18 := zs_vret C dX3_better_18
    have h17 := zs_iast (n := 7) C dX3_better_17 (by decide) h18
    have h14 := zs_mmax C dX3_better_14 zw_307 zw_308 zw_33 zw_309 (Nat.le_of_ble_eq_true rfl) (Nat.le_of_ble_eq_true rfl) h17
    have h13 := zs_isub C dX3_better_13 h14
    have h12 := zs_iload_n (i := 2) C dX3_better_12 rfl h13
    have h11 := zs_iald (n := 7) C dX3_better_11 (by decide) h12
    have h10 := zs_iload_n (i := 1) C dX3_better_10 rfl h11
    have h7 := zs_gR C dX3_better_7 zf_3_3 zw_55 h10
    have h6 := zs_aload_n (i := 0) C dX3_better_6 rfl h7
    have h5 := zs_iconst (v := 0) C dX3_better_5 (by decide) h6
    have h4 := zs_iload_n (i := 1) C dX3_better_4 rfl h5
    have h1 := zs_gR C dX3_better_1 zf_3_3 zw_55 h4
    have h0 := zs_aload_n (i := 0) C dX3_better_0 rfl h1
    exact h0
  case hG =>
    intro as μ r h
    obtain ⟨x0, x1, x2, rfl, h⟩ := g_X3_better_i h
    exact ⟨Nat.le_of_ble_eq_true rfl, h⟩
theorem m_X3_better (N : Nat) : zk_MV yX3_better cX3_better 3 none ({ frames := 1, cells := 0, slots := 0, locals := 21 } : Room) zq_V (g_X3_better N) 2 3 := ⟨c_X3_better N, zw_317, zw_315, zw_316, zw_27, rfl, rfl, by decide +kernel, by decide, ⟨TX3, 8, rfl⟩, fun as μ r h => by obtain ⟨x0, x1, x2, rfl, -⟩ := g_X3_better_i h; exact ⟨_, _, rfl⟩⟩
-- LongestWed$Town.wedAnew(I)V
def f_X3_wedAnew (N : Nat) (x0 : Nat) (x1 : Int32) (μ : ZM) : Option (ZM) :=
  let μ1 := zk_si μ x0 5 ((μ.1 x0 5) ||| (1 <<< (x1 &&& 31)))
  if zk_o x1 7 = true then none else
  let μ2 := zk_si μ1 (x0 + 2) (Int32.toNatClampNeg x1) 0
  if zk_o x1 7 = true then none else
  let μ3 := zk_si μ2 (x0 + 3) (Int32.toNatClampNeg x1) 20
  if zk_o x1 7 = true then none else
  let μ4 := zk_si μ3 (x0 + 4) (Int32.toNatClampNeg x1) 0
  some μ4
def g_X3_wedAnew (N : Nat) (as : List ZV) (μ : ZM) : Option (ZM) := match as with
  | [.inr (.inr (3, x0)), .inl x1] => f_X3_wedAnew N x0 x1 μ
  | _ => none
theorem g_X3_wedAnew_i {N : Nat} {as : List ZV} {μ : ZM} {r : ZM} (h : g_X3_wedAnew N as μ = some r) : ∃ (x0 : Nat) (x1 : Int32), as = [.inr (.inr (3, x0)), .inl x1] ∧ f_X3_wedAnew N x0 x1 μ = some r := by
  unfold g_X3_wedAnew at h
  split at h
  · exact ⟨_, _, rfl, h⟩
  · cases h
set_option maxRecDepth 100000 in
theorem c_X3_wedAnew (N : Nat) : zk_C yX3_wedAnew cX3_wedAnew 2 none ({ frames := 0, cells := 0, slots := 0, locals := 0 } : Room) zq_V (g_X3_wedAnew N) := by
  refine zk_met ?κ (by decide +kernel) ?hG ?body
  case body =>
    intro X E C
    have C : zk_X X E RX3 cX3_wedAnew 2 none ({ frames := 0, cells := 0, slots := 0, locals := 0 } : Room) := C
    have h34 := zs_vret C dX3_wedAnew_34
    have h33 := zs_iast (n := 7) C dX3_wedAnew_33 (by decide) h34
    have h32 := zs_iconst (v := 0) C dX3_wedAnew_32 (by decide) h33
    have h31 := zs_iload_n (i := 1) C dX3_wedAnew_31 rfl h32
    have h28 := zs_gR C dX3_wedAnew_28 zf_3_3 zw_55 h31
    have h27 := zs_aload_n (i := 0) C dX3_wedAnew_27 rfl h28
    have h26 := zs_iast (n := 7) C dX3_wedAnew_26 (by decide) h27
    have h24 := zs_bipush (v := 20) C dX3_wedAnew_24 (by decide) h26
    have h23 := zs_iload_n (i := 1) C dX3_wedAnew_23 rfl h24
    have h20 := zs_gR C dX3_wedAnew_20 zf_3_2 zw_53 h23
    have h19 := zs_aload_n (i := 0) C dX3_wedAnew_19 rfl h20
    have h18 := zs_iast (n := 7) C dX3_wedAnew_18 (by decide) h19
    have h17 := zs_iconst (v := 0) C dX3_wedAnew_17 (by decide) h18
    have h16 := zs_iload_n (i := 1) C dX3_wedAnew_16 rfl h17
    have h13 := zs_gR C dX3_wedAnew_13 zf_3_1 zw_51 h16
    have h12 := zs_aload_n (i := 0) C dX3_wedAnew_12 rfl h13
    have h9 := zs_pI C dX3_wedAnew_9 zf_3_5 zw_59 rfl (by decide +kernel) h12
    have h8 := zs_ior C dX3_wedAnew_8 h9
    have h7 := zs_ishl C dX3_wedAnew_7 h8
    have h6 := zs_iload_n (i := 1) C dX3_wedAnew_6 rfl h7
    have h5 := zs_iconst (v := 1) C dX3_wedAnew_5 (by decide) h6
    have h2 := zs_gI C dX3_wedAnew_2 zf_3_5 zw_59 h5
    have h1 := zs_dup C dX3_wedAnew_1 h2
    have h0 := zs_aload_n (i := 0) C dX3_wedAnew_0 rfl h1
    exact h0
  case hG =>
    intro as μ r h
    obtain ⟨x0, x1, rfl, h⟩ := g_X3_wedAnew_i h
    exact ⟨Nat.le_of_ble_eq_true rfl, h⟩
theorem m_X3_wedAnew (N : Nat) : zk_MV yX3_wedAnew cX3_wedAnew 2 none ({ frames := 0, cells := 0, slots := 0, locals := 0 } : Room) zq_V (g_X3_wedAnew N) 1 3 := ⟨c_X3_wedAnew N, zw_330, zw_328, zw_329, zw_27, rfl, rfl, by decide +kernel, by decide, ⟨TX3, 8, rfl⟩, fun as μ r h => by obtain ⟨x0, x1, rfl, -⟩ := g_X3_wedAnew_i h; exact ⟨_, _, rfl⟩⟩
-- LongestWed$Town.drawNext()V
def f_X3_drawNext (N : Nat) (x0 : Nat) (μ : ZM) : Option (ZM) :=
  let μ1 := zk_si μ x0 7 ((((μ.1 x0 7) * 1103515245) + 12345) &&& 2147483647)
  if 0 < (μ1.1 x0 4) then
    if (μ1.1 x0 4) = 0 then none else
    (f_X3_isTogether N x0 (((μ1.1 x0 7) / 65536) - ((μ1.1 x0 7) / 65536) / (μ1.1 x0 4) * (μ1.1 x0 4)) μ1).bind fun r2 =>
    if r2.1 = 0 then
      if ¬ (((μ1.1 x0 7) / 128) - ((μ1.1 x0 7) / 128) / 7 * 7) = 0 then
        some r2.2
      else
        (f_X3_wedAnew N x0 (((μ1.1 x0 7) / 65536) - ((μ1.1 x0 7) / 65536) / (μ1.1 x0 4) * (μ1.1 x0 4)) r2.2).bind fun r3 =>
        some r3
    else
      (f_X3_worsen N x0 (((μ1.1 x0 7) / 65536) - ((μ1.1 x0 7) / 65536) / (μ1.1 x0 4) * (μ1.1 x0 4)) (((μ1.1 x0 7) / 128) - ((μ1.1 x0 7) / 128) / 7 * 7) r2.2).bind fun r4 =>
      some r4
  else
    some μ1
def g_X3_drawNext (N : Nat) (as : List ZV) (μ : ZM) : Option (ZM) := match as with
  | [.inr (.inr (3, x0))] => f_X3_drawNext N x0 μ
  | _ => none
theorem g_X3_drawNext_i {N : Nat} {as : List ZV} {μ : ZM} {r : ZM} (h : g_X3_drawNext N as μ = some r) : ∃ (x0 : Nat), as = [.inr (.inr (3, x0))] ∧ f_X3_drawNext N x0 μ = some r := by
  unfold g_X3_drawNext at h
  split at h
  · exact ⟨_, rfl, h⟩
  · cases h
set_option maxRecDepth 100000 in
theorem c_X3_drawNext (N : Nat) : zk_C yX3_drawNext cX3_drawNext 3 none ({ frames := 2, cells := 0, slots := 0, locals := 43 } : Room) zq_V (g_X3_drawNext N) := by
  refine zk_met ?κ (by decide +kernel) ?hG ?body
  case body =>
    intro X E C
    have C : zk_X X E RX3 cX3_drawNext 3 none ({ frames := 2, cells := 0, slots := 0, locals := 43 } : Room) := C
    have h77 := zs_vret C dX3_drawNext_77
    have h74 := zs_vV C dX3_drawNext_74 (m_X3_wedAnew N) zw_342 ⟨Nat.le_of_ble_eq_true rfl, Nat.le_of_ble_eq_true rfl⟩ h77
    have h73 := zs_iload_n (i := 1) C dX3_drawNext_73 rfl h74
    have h72 := zs_aload_n (i := 0) C dX3_drawNext_72 rfl h73
    have h69 := zs_if_ne (tgt := 77) C dX3_drawNext_69 (by decide) h77 h72
    have h68 := zs_iload_n (i := 2) C dX3_drawNext_68 rfl h69
    have h65 := zs_goto (tgt := 77) C dX3_drawNext_65 (by decide) h77
    have h62 := zs_vV C dX3_drawNext_62 (m_X3_worsen N) zw_303 ⟨Nat.le_of_ble_eq_true rfl, Nat.le_of_ble_eq_true rfl⟩ h65
    have h61 := zs_iload_n (i := 2) C dX3_drawNext_61 rfl h62
    have h60 := zs_iload_n (i := 1) C dX3_drawNext_60 rfl h61
    have h59 := zs_aload_n (i := 0) C dX3_drawNext_59 rfl h60
    have h56 := zs_if_eq (tgt := 68) C dX3_drawNext_56 (by decide) h68 h59
    have h53 := zs_vI C dX3_drawNext_53 (m_X3_isTogether N) zw_209 ⟨Nat.le_of_ble_eq_true rfl, Nat.le_of_ble_eq_true rfl⟩ h56
    have h52 := zs_iload_n (i := 1) C dX3_drawNext_52 rfl h53
    have h51 := zs_aload_n (i := 0) C dX3_drawNext_51 rfl h52
    have h50 := zs_istore_n (i := 2) C dX3_drawNext_50 rfl h51
    have h49 := zs_irem C dX3_drawNext_49 h50
    have h47 := zs_bipush (v := 7) C dX3_drawNext_47 (by decide) h49
    have h46 := zs_idiv C dX3_drawNext_46 h47
    have h43 := zs_sipush (v := 128) C dX3_drawNext_43 (by decide) h46
    have h40 := zs_gI C dX3_drawNext_40 zf_3_7 zw_63 h43
    have h39 := zs_aload_n (i := 0) C dX3_drawNext_39 rfl h40
    have h38 := zs_istore_n (i := 1) C dX3_drawNext_38 rfl h39
    have h37 := zs_irem C dX3_drawNext_37 h38
    have h34 := zs_gI C dX3_drawNext_34 zf_3_4 zw_57 h37
    have h33 := zs_aload_n (i := 0) C dX3_drawNext_33 rfl h34
    have h32 := zs_idiv C dX3_drawNext_32 h33
    have h30 := zs_ldc (v := 65536) C dX3_drawNext_30 zw_341 h32
    have h27 := zs_gI C dX3_drawNext_27 zf_3_7 zw_63 h30
    have h26 := zs_aload_n (i := 0) C dX3_drawNext_26 rfl h27
    have h25 := zs_vret C dX3_drawNext_25
    have h22 := zs_if_gt (tgt := 26) C dX3_drawNext_22 (by decide) h26 h25
    have h19 := zs_gI C dX3_drawNext_19 zf_3_4 zw_57 h22
    have h18 := zs_aload_n (i := 0) C dX3_drawNext_18 rfl h19
    have h15 := zs_pI C dX3_drawNext_15 zf_3_7 zw_63 rfl (by decide +kernel) h18
    have h14 := zs_iand C dX3_drawNext_14 h15
    have h12 := zs_ldc (v := 2147483647) C dX3_drawNext_12 zw_340 h14
    have h11 := zs_iadd C dX3_drawNext_11 h12
    have h8 := zs_sipush (v := 12345) C dX3_drawNext_8 (by decide) h11
    have h7 := zs_imul C dX3_drawNext_7 h8
    have h5 := zs_ldc (v := 1103515245) C dX3_drawNext_5 zw_339 h7
    have h2 := zs_gI C dX3_drawNext_2 zf_3_7 zw_63 h5
    have h1 := zs_aload_n (i := 0) C dX3_drawNext_1 rfl h2
    have h0 := zs_aload_n (i := 0) C dX3_drawNext_0 rfl h1
    exact h0
  case hG =>
    intro as μ r h
    obtain ⟨x0, rfl, h⟩ := g_X3_drawNext_i h
    exact ⟨Nat.le_of_ble_eq_true rfl, h⟩
theorem m_X3_drawNext (N : Nat) : zk_MV yX3_drawNext cX3_drawNext 3 none ({ frames := 2, cells := 0, slots := 0, locals := 43 } : Room) zq_V (g_X3_drawNext N) 0 3 := ⟨c_X3_drawNext N, zw_338, zw_336, zw_337, zw_27, rfl, rfl, by decide +kernel, by decide, ⟨TX3, 8, rfl⟩, fun as μ r h => by obtain ⟨x0, rfl, -⟩ := g_X3_drawNext_i h; exact ⟨_, _, rfl⟩⟩
-- LongestWed$Town.passYears(I)V
def f_X3_passYears_L2 (N : Nat) : Nat → Nat → Int32 → Int32 → ZM → Option (ZM)
  | 0, _, _, _, _ => none
  | n + 1, x0, x1, x2, μ =>
    if x1 ≤ x2 then
      some μ
    else
      (f_X3_passYear N x0 μ).bind fun r1 =>
      f_X3_passYears_L2 N n x0 x1 (x2 + 1) r1
def k_X3_passYears_L2 (N n : Nat) : ZK (ZM) := fun L st μ => match L, st with
  | [some (.inr (.inr (3, x0))), some (.inl x1), some (.inl x2)], [] => f_X3_passYears_L2 N n x0 x1 x2 μ
  | _, _ => none
theorem k_X3_passYears_L2_i {N : Nat} {n : Nat} {L : ZL} {st : List ZV} {μ : ZM} {r : ZM} (h : k_X3_passYears_L2 N n L st μ = some r) : ∃ (x0 : Nat) (x1 : Int32) (x2 : Int32), L = [some (.inr (.inr (3, x0))), some (.inl x1), some (.inl x2)] ∧ st = [] ∧ f_X3_passYears_L2 N n x0 x1 x2 μ = some r := by
  unfold k_X3_passYears_L2 at h
  split at h
  · exact ⟨_, _, _, rfl, rfl, h⟩
  · cases h
set_option maxRecDepth 100000 in
theorem s_X3_passYears_L2 (N : Nat) {X : ZX} {E : ZE} (C : zk_X X E RX3 cX3_passYears 3 none ({ frames := 3, cells := 0, slots := 0, locals := 68 } : Room)) : ∀ n, zk_S X E 3 zq_V 2 (k_X3_passYears_L2 N n) := by
  intro n
  induction n with
  | zero =>
    intro H locs ls L st μ r h hL hst hW hS
    obtain ⟨x0, x1, x2, rfl, rfl, h⟩ := k_X3_passYears_L2_i h
    exact nomatch (show none = some r from h)
  | succ n ih =>
    have h17 := zs_vret C dX3_passYears_17
    have h14 := zs_goto (tgt := 2) C dX3_passYears_14 (by decide) ih
    have h11 := zs_iinc (n := 1) C dX3_passYears_11 (by decide) h14
    have h8 := zs_vV C dX3_passYears_8 (m_X3_passYear N) zw_363 ⟨Nat.le_of_ble_eq_true rfl, Nat.le_of_ble_eq_true rfl⟩ h11
    have h7 := zs_aload_n (i := 0) C dX3_passYears_7 rfl h8
    have h4 := zs_icmp_ge (tgt := 17) C dX3_passYears_4 (by decide) h17 h7
    have h3 := zs_iload_n (i := 1) C dX3_passYears_3 rfl h4
    have h2 := zs_iload_n (i := 2) C dX3_passYears_2 rfl h3
    intro H locs ls L st μ r h hL hst hW hS
    obtain ⟨x0, x1, x2, rfl, rfl, h⟩ := k_X3_passYears_L2_i h
    exact h2 H locs ls [some (.inr (.inr (3, x0))), some (.inl x1), some (.inl x2)] [] μ r h (hL.less ⟨rfl, rfl, rfl, trivial⟩) hst hW hS
def f_X3_passYears (N : Nat) (x0 : Nat) (x1 : Int32) (μ : ZM) : Option (ZM) :=
  f_X3_passYears_L2 N N x0 x1 0 μ
def g_X3_passYears (N : Nat) (as : List ZV) (μ : ZM) : Option (ZM) := match as with
  | [.inr (.inr (3, x0)), .inl x1] => f_X3_passYears N x0 x1 μ
  | _ => none
theorem g_X3_passYears_i {N : Nat} {as : List ZV} {μ : ZM} {r : ZM} (h : g_X3_passYears N as μ = some r) : ∃ (x0 : Nat) (x1 : Int32), as = [.inr (.inr (3, x0)), .inl x1] ∧ f_X3_passYears N x0 x1 μ = some r := by
  unfold g_X3_passYears at h
  split at h
  · exact ⟨_, _, rfl, h⟩
  · cases h
set_option maxRecDepth 100000 in
theorem c_X3_passYears (N : Nat) : zk_C yX3_passYears cX3_passYears 3 none ({ frames := 3, cells := 0, slots := 0, locals := 68 } : Room) zq_V (g_X3_passYears N) := by
  refine zk_met ?κ (by decide +kernel) ?hG ?body
  case body =>
    intro X E C
    have C : zk_X X E RX3 cX3_passYears 3 none ({ frames := 3, cells := 0, slots := 0, locals := 68 } : Room) := C
    have e2 := s_X3_passYears_L2 N C N
    have h1 := zs_istore_n (i := 2) C dX3_passYears_1 rfl e2
    have h0 := zs_iconst (v := 0) C dX3_passYears_0 (by decide) h1
    exact h0
  case hG =>
    intro as μ r h
    obtain ⟨x0, x1, rfl, h⟩ := g_X3_passYears_i h
    exact ⟨Nat.le_of_ble_eq_true rfl, h⟩
theorem m_X3_passYears (N : Nat) : zk_MV yX3_passYears cX3_passYears 3 none ({ frames := 3, cells := 0, slots := 0, locals := 68 } : Room) zq_V (g_X3_passYears N) 1 3 := ⟨c_X3_passYears N, zw_362, zw_360, zw_361, zw_27, rfl, rfl, by decide +kernel, by decide, ⟨TX3, 8, rfl⟩, fun as μ r h => by obtain ⟨x0, x1, rfl, -⟩ := g_X3_passYears_i h; exact ⟨_, _, rfl⟩⟩
-- LongestWed$Town.tenthsToStay(II)I
def f_X3_tenthsToStay (N : Nat) (x0 : Nat) (x1 : Int32) (x2 : Int32) (μ : ZM) : Option (Int32 × ZM) :=
  (f_X3_isTogether N x0 x1 μ).bind fun r1 =>
  if ¬ r1.1 = 0 then
    if zk_o x1 7 = true then none else
    if ((r1.2.1 (x0 + 4) (Int32.toNatClampNeg x1)) + 10) ≤ (19 : Int32) then
      some (10, r1.2)
    else
      some ((10 - x2), r1.2)
  else
    some (0, r1.2)
def g_X3_tenthsToStay (N : Nat) (as : List ZV) (μ : ZM) : Option (Int32 × ZM) := match as with
  | [.inr (.inr (3, x0)), .inl x1, .inl x2] => f_X3_tenthsToStay N x0 x1 x2 μ
  | _ => none
theorem g_X3_tenthsToStay_i {N : Nat} {as : List ZV} {μ : ZM} {r : Int32 × ZM} (h : g_X3_tenthsToStay N as μ = some r) : ∃ (x0 : Nat) (x1 : Int32) (x2 : Int32), as = [.inr (.inr (3, x0)), .inl x1, .inl x2] ∧ f_X3_tenthsToStay N x0 x1 x2 μ = some r := by
  unfold g_X3_tenthsToStay at h
  split at h
  · exact ⟨_, _, _, rfl, h⟩
  · cases h
set_option maxRecDepth 100000 in
theorem c_X3_tenthsToStay (N : Nat) : zk_C yX3_tenthsToStay cX3_tenthsToStay 3 (some .int) ({ frames := 1, cells := 0, slots := 0, locals := 21 } : Room) zq_I (g_X3_tenthsToStay N) := by
  refine zk_met ?κ (by decide +kernel) ?hG ?body
  case body =>
    intro X E C
    have C : zk_X X E RX3 cX3_tenthsToStay 3 (some .int) ({ frames := 1, cells := 0, slots := 0, locals := 21 } : Room) := C
    have h33 := zs_iret C dX3_tenthsToStay_33
    have h31 := zs_bipush (v := 10) C dX3_tenthsToStay_31 (by decide) h33
    have h28 := zs_goto (tgt := 33) C dX3_tenthsToStay_28 (by decide) h33
    have h27 := zs_isub C dX3_tenthsToStay_27 h28
    have h26 := zs_iload_n (i := 2) C dX3_tenthsToStay_26 rfl h27
    have h24 := zs_bipush (v := 10) C dX3_tenthsToStay_24 (by decide) h26
    have h21 := zs_icmp_le (tgt := 31) C dX3_tenthsToStay_21 (by decide) h31 h24
    have h19 := zs_bipush (v := 19) C dX3_tenthsToStay_19 (by decide) h21
    have h18 := zs_iadd C dX3_tenthsToStay_18 h19
    have h16 := zs_bipush (v := 10) C dX3_tenthsToStay_16 (by decide) h18
    have h15 := zs_iald (n := 7) C dX3_tenthsToStay_15 (by decide) h16
    have h14 := zs_iload_n (i := 1) C dX3_tenthsToStay_14 rfl h15
    have h11 := zs_gR C dX3_tenthsToStay_11 zf_3_3 zw_55 h14
    have h10 := zs_aload_n (i := 0) C dX3_tenthsToStay_10 rfl h11
    have h9 := zs_iret C dX3_tenthsToStay_9
    have h8 := zs_iconst (v := 0) C dX3_tenthsToStay_8 (by decide) h9
    have h5 := zs_if_ne (tgt := 10) C dX3_tenthsToStay_5 (by decide) h10 h8
    have h2 := zs_vI C dX3_tenthsToStay_2 (m_X3_isTogether N) zw_209 ⟨Nat.le_of_ble_eq_true rfl, Nat.le_of_ble_eq_true rfl⟩ h5
    have h1 := zs_iload_n (i := 1) C dX3_tenthsToStay_1 rfl h2
    have h0 := zs_aload_n (i := 0) C dX3_tenthsToStay_0 rfl h1
    exact h0
  case hG =>
    intro as μ r h
    obtain ⟨x0, x1, x2, rfl, h⟩ := g_X3_tenthsToStay_i h
    exact ⟨Nat.le_of_ble_eq_true rfl, h⟩
theorem m_X3_tenthsToStay (N : Nat) : zk_MV yX3_tenthsToStay cX3_tenthsToStay 3 (some .int) ({ frames := 1, cells := 0, slots := 0, locals := 21 } : Room) zq_I (g_X3_tenthsToStay N) 2 3 := ⟨c_X3_tenthsToStay N, zw_441, zw_439, zw_440, zw_27, rfl, rfl, by decide +kernel, by decide, ⟨TX3, 8, rfl⟩, fun as μ r h => by obtain ⟨x0, x1, x2, rfl, -⟩ := g_X3_tenthsToStay_i h; exact ⟨_, _, rfl⟩⟩
-- LongestWed$Town.isBefore(II)Z
def f_X3_isBefore (N : Nat) (x0 : Nat) (x1 : Int32) (x2 : Int32) (μ : ZM) : Option (Int32 × ZM) :=
  if zk_o x1 7 = true then none else
  if zk_o x2 7 = true then none else
  if (μ.1 (x0 + 2) (Int32.toNatClampNeg x2)) < (μ.1 (x0 + 2) (Int32.toNatClampNeg x1)) then
    zk_zr 1 μ
  else
    if zk_o x1 7 = true then none else
    if zk_o x2 7 = true then none else
    if ¬ (μ.1 (x0 + 2) (Int32.toNatClampNeg x1)) = (μ.1 (x0 + 2) (Int32.toNatClampNeg x2)) then
      zk_zr 0 μ
    else
      if x2 ≤ x1 then
        zk_zr 0 μ
      else
        zk_zr 1 μ
def g_X3_isBefore (N : Nat) (as : List ZV) (μ : ZM) : Option (Int32 × ZM) := match as with
  | [.inr (.inr (3, x0)), .inl x1, .inl x2] => f_X3_isBefore N x0 x1 x2 μ
  | _ => none
theorem g_X3_isBefore_i {N : Nat} {as : List ZV} {μ : ZM} {r : Int32 × ZM} (h : g_X3_isBefore N as μ = some r) : ∃ (x0 : Nat) (x1 : Int32) (x2 : Int32), as = [.inr (.inr (3, x0)), .inl x1, .inl x2] ∧ f_X3_isBefore N x0 x1 x2 μ = some r := by
  unfold g_X3_isBefore at h
  split at h
  · exact ⟨_, _, _, rfl, h⟩
  · cases h
set_option maxRecDepth 100000 in
theorem c_X3_isBefore (N : Nat) : zk_C yX3_isBefore cX3_isBefore 3 (some .boolean) ({ frames := 0, cells := 0, slots := 0, locals := 0 } : Room) zq_I (g_X3_isBefore N) := by
  refine zk_met ?κ (by decide +kernel) ?hG ?body
  case body =>
    intro X E C
    have C : zk_X X E RX3 cX3_isBefore 3 (some .boolean) ({ frames := 0, cells := 0, slots := 0, locals := 0 } : Room) := C
    have h40 := zs_zret C dX3_isBefore_40
    have h39 := zs_iconst (v := 0) C dX3_isBefore_39 (by decide) h40
    have h36 := zs_goto (tgt := 40) C dX3_isBefore_36 (by decide) h40
    have h35 := zs_iconst (v := 1) C dX3_isBefore_35 (by decide) h36
    have h32 := zs_icmp_ge (tgt := 39) C dX3_isBefore_32 (by decide) h39 h35
    have h31 := zs_iload_n (i := 2) C dX3_isBefore_31 rfl h32
    have h30 := zs_iload_n (i := 1) C dX3_isBefore_30 rfl h31
    have h27 := zs_icmp_ne (tgt := 39) C dX3_isBefore_27 (by decide) h39 h30
    have h26 := zs_iald (n := 7) C dX3_isBefore_26 (by decide) h27
    have h25 := zs_iload_n (i := 2) C dX3_isBefore_25 rfl h26
    have h22 := zs_gR C dX3_isBefore_22 zf_3_1 zw_51 h25
    have h21 := zs_aload_n (i := 0) C dX3_isBefore_21 rfl h22
    have h20 := zs_iald (n := 7) C dX3_isBefore_20 (by decide) h21
    have h19 := zs_iload_n (i := 1) C dX3_isBefore_19 rfl h20
    have h16 := zs_gR C dX3_isBefore_16 zf_3_1 zw_51 h19
    have h15 := zs_aload_n (i := 0) C dX3_isBefore_15 rfl h16
    have h12 := zs_icmp_gt (tgt := 35) C dX3_isBefore_12 (by decide) h35 h15
    have h11 := zs_iald (n := 7) C dX3_isBefore_11 (by decide) h12
    have h10 := zs_iload_n (i := 2) C dX3_isBefore_10 rfl h11
    have h7 := zs_gR C dX3_isBefore_7 zf_3_1 zw_51 h10
    have h6 := zs_aload_n (i := 0) C dX3_isBefore_6 rfl h7
    have h5 := zs_iald (n := 7) C dX3_isBefore_5 (by decide) h6
    have h4 := zs_iload_n (i := 1) C dX3_isBefore_4 rfl h5
    have h1 := zs_gR C dX3_isBefore_1 zf_3_1 zw_51 h4
    have h0 := zs_aload_n (i := 0) C dX3_isBefore_0 rfl h1
    exact h0
  case hG =>
    intro as μ r h
    obtain ⟨x0, x1, x2, rfl, h⟩ := g_X3_isBefore_i h
    exact ⟨Nat.le_of_ble_eq_true rfl, h⟩
theorem m_X3_isBefore (N : Nat) : zk_MV yX3_isBefore cX3_isBefore 3 (some .boolean) ({ frames := 0, cells := 0, slots := 0, locals := 0 } : Room) zq_I (g_X3_isBefore N) 2 3 := ⟨c_X3_isBefore N, zw_445, zw_443, zw_444, zw_27, rfl, rfl, by decide +kernel, by decide, ⟨TX3, 8, rfl⟩, fun as μ r h => by obtain ⟨x0, x1, x2, rfl, -⟩ := g_X3_isBefore_i h; exact ⟨_, _, rfl⟩⟩
