-- LongestWedModel.in(III)Z
def f_X5_in (N : Nat) (x0 : Int32) (x1 : Int32) (x2 : Int32) (μ : ZM) : Option (Int32 × ZM) :=
  if x0 < x1 then
    zk_zr 0 μ
  else
    if x2 < x0 then
      zk_zr 0 μ
    else
      zk_zr 1 μ
def g_X5_in (N : Nat) (as : List ZV) (μ : ZM) : Option (Int32 × ZM) := match as with
  | [.inl x0, .inl x1, .inl x2] => f_X5_in N x0 x1 x2 μ
  | _ => none
theorem g_X5_in_i {N : Nat} {as : List ZV} {μ : ZM} {r : Int32 × ZM} (h : g_X5_in N as μ = some r) : ∃ (x0 : Int32) (x1 : Int32) (x2 : Int32), as = [.inl x0, .inl x1, .inl x2] ∧ f_X5_in N x0 x1 x2 μ = some r := by
  unfold g_X5_in at h
  split at h
  · exact ⟨_, _, _, rfl, h⟩
  · cases h
set_option maxRecDepth 100000 in
theorem c_X5_in (N : Nat) : zk_C yX5_in cX5_in 3 (some .boolean) ({ frames := 0, cells := 0, slots := 0, locals := 0 } : Room) zq_I (g_X5_in N) := by
  refine zk_met ?κ (by decide +kernel) ?hG ?body
  case body =>
    intro X E C
    have C : zk_X X E RX5 cX5_in 3 (some .boolean) ({ frames := 0, cells := 0, slots := 0, locals := 0 } : Room) := C
    have h15 := zs_zret C dX5_in_15
    have h14 := zs_iconst (v := 0) C dX5_in_14 (by decide) h15
    have h11 := zs_goto (tgt := 15) C dX5_in_11 (by decide) h15
    have h10 := zs_iconst (v := 1) C dX5_in_10 (by decide) h11
    have h7 := zs_icmp_gt (tgt := 14) C dX5_in_7 (by decide) h14 h10
    have h6 := zs_iload_n (i := 2) C dX5_in_6 rfl h7
    have h5 := zs_iload_n (i := 0) C dX5_in_5 rfl h6
    have h2 := zs_icmp_lt (tgt := 14) C dX5_in_2 (by decide) h14 h5
    have h1 := zs_iload_n (i := 1) C dX5_in_1 rfl h2
    have h0 := zs_iload_n (i := 0) C dX5_in_0 rfl h1
    exact h0
  case hG =>
    intro as μ r h
    obtain ⟨x0, x1, x2, rfl, h⟩ := g_X5_in_i h
    exact ⟨Nat.le_of_ble_eq_true rfl, h⟩
theorem m_X5_in (N : Nat) : zk_MS yX5_in cX5_in 3 (some .boolean) ({ frames := 0, cells := 0, slots := 0, locals := 0 } : Room) zq_I (g_X5_in N) 3 := ⟨c_X5_in N, zw_605, zw_604, zw_31, rfl, rfl, by decide +kernel⟩
-- LongestWedModel.join([IIIIIZ)V
def f_X5_join (N : Nat) (x0 : Nat) (x1 : Int32) (x2 : Int32) (x3 : Int32) (x4 : Int32) (x5 : Int32) (μ : ZM) : Option (ZM) :=
  if zk_o (4 + (μ.1 x0 0)) 32 = true then none else
  let μ1 := zk_si μ x0 (Int32.toNatClampNeg (4 + (μ.1 x0 0))) x1
  if zk_o (11 + (μ.1 x0 0)) 32 = true then none else
  let μ2 := zk_si μ1 x0 (Int32.toNatClampNeg (11 + (μ.1 x0 0))) x2
  if zk_o (18 + (μ.1 x0 0)) 32 = true then none else
  let μ3 := zk_si μ2 x0 (Int32.toNatClampNeg (18 + (μ.1 x0 0))) x3
  if zk_o (25 + (μ.1 x0 0)) 32 = true then none else
  let μ4 := zk_si μ3 x0 (Int32.toNatClampNeg (25 + (μ.1 x0 0))) x4
  let j65 : Int32 → Option (ZM) := fun b5 =>
    let μ6 := zk_si μ4 x0 2 b5
    let μ7 := zk_si μ6 x0 0 ((μ6.1 x0 0) + 1)
    some μ7
  if x5 = 0 then
    j65 ((μ4.1 x0 2) &&& ((1 <<< ((μ.1 x0 0) &&& 31)) ^^^ (-1)))
  else
    j65 ((μ4.1 x0 2) ||| (1 <<< ((μ.1 x0 0) &&& 31)))
def g_X5_join (N : Nat) (as : List ZV) (μ : ZM) : Option (ZM) := match as with
  | [.inr (.inr (1032, x0)), .inl x1, .inl x2, .inl x3, .inl x4, .inl x5] => f_X5_join N x0 x1 x2 x3 x4 x5 μ
  | _ => none
theorem g_X5_join_i {N : Nat} {as : List ZV} {μ : ZM} {r : ZM} (h : g_X5_join N as μ = some r) : ∃ (x0 : Nat) (x1 : Int32) (x2 : Int32) (x3 : Int32) (x4 : Int32) (x5 : Int32), as = [.inr (.inr (1032, x0)), .inl x1, .inl x2, .inl x3, .inl x4, .inl x5] ∧ f_X5_join N x0 x1 x2 x3 x4 x5 μ = some r := by
  unfold g_X5_join at h
  split at h
  · exact ⟨_, _, _, _, _, _, rfl, h⟩
  · cases h
set_option maxRecDepth 100000 in
theorem c_X5_join (N : Nat) : zk_C yX5_join cX5_join 7 none ({ frames := 0, cells := 0, slots := 0, locals := 0 } : Room) zq_V (g_X5_join N) := by
  refine zk_met ?κ (by decide +kernel) ?hG ?body
  case body =>
    intro X E C
    have C : zk_X X E RX5 cX5_join 7 none ({ frames := 0, cells := 0, slots := 0, locals := 0 } : Room) := C
    have h73 := zs_vret C dX5_join_73
    have h72 := zs_iast (n := 32) C dX5_join_72 (by decide) h73
    have h71 := zs_iadd C dX5_join_71 h72
    have h70 := zs_iconst (v := 1) C dX5_join_70 (by decide) h71
    have h69 := zs_iald (n := 32) C dX5_join_69 (by decide) h70
    have h68 := zs_dup2 C dX5_join_68 h69
    have h67 := zs_iconst (v := 0) C dX5_join_67 (by decide) h68
    have h66 := zs_aload_n (i := 0) C dX5_join_66 rfl h67
    have h65 := zs_iast (n := 32) C dX5_join_65 (by decide) h66
    have h64 := zs_iand C dX5_join_64 h65
    have h63 := zs_ixor C dX5_join_63 h64
    have h62 := zs_iconst (v := (-1)) C dX5_join_62 (by decide) h63
    have h61 := zs_ishl C dX5_join_61 h62
    have h59 := zs_iload (i := 6) C dX5_join_59 h61
    have h58 := zs_iconst (v := 1) C dX5_join_58 (by decide) h59
    have h57 := zs_iald (n := 32) C dX5_join_57 (by decide) h58
    have h56 := zs_iconst (v := 2) C dX5_join_56 (by decide) h57
    have h55 := zs_aload_n (i := 0) C dX5_join_55 rfl h56
    have h52 := zs_goto (tgt := 65) C dX5_join_52 (by decide) h65
    have h51 := zs_ior C dX5_join_51 h52
    have h50 := zs_ishl C dX5_join_50 h51
    have h48 := zs_iload (i := 6) C dX5_join_48 h50
    have h47 := zs_iconst (v := 1) C dX5_join_47 (by decide) h48
    have h46 := zs_iald (n := 32) C dX5_join_46 (by decide) h47
    have h45 := zs_iconst (v := 2) C dX5_join_45 (by decide) h46
    have h44 := zs_aload_n (i := 0) C dX5_join_44 rfl h45
    have h41 := zs_if_eq (tgt := 55) C dX5_join_41 (by decide) h55 h44
    have h39 := zs_iload (i := 5) C dX5_join_39 h41
    have h38 := zs_iconst (v := 2) C dX5_join_38 (by decide) h39
    have h37 := zs_aload_n (i := 0) C dX5_join_37 rfl h38
    have h36 := zs_iast (n := 32) C dX5_join_36 (by decide) h37
    have h34 := zs_iload (i := 4) C dX5_join_34 h36
    have h33 := zs_iadd C dX5_join_33 h34
    have h31 := zs_iload (i := 6) C dX5_join_31 h33
    have h29 := zs_bipush (v := 25) C dX5_join_29 (by decide) h31
    have h28 := zs_aload_n (i := 0) C dX5_join_28 rfl h29
    have h27 := zs_iast (n := 32) C dX5_join_27 (by decide) h28
    have h26 := zs_iload_n (i := 3) C dX5_join_26 rfl h27
    have h25 := zs_iadd C dX5_join_25 h26
    have h23 := zs_iload (i := 6) C dX5_join_23 h25
    have h21 := zs_bipush (v := 18) C dX5_join_21 (by decide) h23
    have h20 := zs_aload_n (i := 0) C dX5_join_20 rfl h21
    have h19 := zs_iast (n := 32) C dX5_join_19 (by decide) h20
    have h18 := zs_iload_n (i := 2) C dX5_join_18 rfl h19
    have h17 := zs_iadd C dX5_join_17 h18
    have h15 := zs_iload (i := 6) C dX5_join_15 h17
    have h13 := zs_bipush (v := 11) C dX5_join_13 (by decide) h15
    have h12 := zs_aload_n (i := 0) C dX5_join_12 rfl h13
    have h11 := zs_iast (n := 32) C dX5_join_11 (by decide) h12
    have h10 := zs_iload_n (i := 1) C dX5_join_10 rfl h11
    have h9 := zs_iadd C dX5_join_9 h10
    have h7 := zs_iload (i := 6) C dX5_join_7 h9
    have h6 := zs_iconst (v := 4) C dX5_join_6 (by decide) h7
    have h5 := zs_aload_n (i := 0) C dX5_join_5 rfl h6
    have h3 := zs_istore (i := 6) C dX5_join_3 h5
    have h2 := zs_iald (n := 32) C dX5_join_2 (by decide) h3
    have h1 := zs_iconst (v := 0) C dX5_join_1 (by decide) h2
    have h0 := zs_aload_n (i := 0) C dX5_join_0 rfl h1
    exact h0
  case hG =>
    intro as μ r h
    obtain ⟨x0, x1, x2, x3, x4, x5, rfl, h⟩ := g_X5_join_i h
    exact ⟨Nat.le_of_ble_eq_true rfl, h⟩
theorem m_X5_join (N : Nat) : zk_MS yX5_join cX5_join 7 none ({ frames := 0, cells := 0, slots := 0, locals := 0 } : Room) zq_V (g_X5_join N) 6 := ⟨c_X5_join N, zw_608, zw_607, zw_31, rfl, rfl, by decide +kernel⟩
-- LongestWedModel.couple(II)I
def f_X5_couple (N : Nat) (x0 : Nat) (x1 : Int32) (x2 : Int32) (μ : ZM) : Option (Int32 × ZM) :=
  (f_X5_in N x1 0 4 μ).bind fun r1 =>
  if r1.1 = 0 then
    some ((-1), r1.2)
  else
    (f_X5_in N x2 0 80 r1.2).bind fun r2 =>
    if ¬ r2.1 = 0 then
      if ¬ (r2.2.1 (x0 + 1) 0) = (7 : Int32) then
        (f_X5_join N (x0 + 1) x1 x2 40 0 0 r2.2).bind fun r3 =>
        let μ4 := zk_si r3 x0 3 0
        some (((μ4.1 (x0 + 1) 0) - 1), μ4)
      else
        some ((-3), r2.2)
    else
      some ((-1), r2.2)
def g_X5_couple (N : Nat) (as : List ZV) (μ : ZM) : Option (Int32 × ZM) := match as with
  | [.inr (.inr (5, x0)), .inl x1, .inl x2] => f_X5_couple N x0 x1 x2 μ
  | _ => none
theorem g_X5_couple_i {N : Nat} {as : List ZV} {μ : ZM} {r : Int32 × ZM} (h : g_X5_couple N as μ = some r) : ∃ (x0 : Nat) (x1 : Int32) (x2 : Int32), as = [.inr (.inr (5, x0)), .inl x1, .inl x2] ∧ f_X5_couple N x0 x1 x2 μ = some r := by
  unfold g_X5_couple at h
  split at h
  · exact ⟨_, _, _, rfl, h⟩
  · cases h
set_option maxRecDepth 100000 in
theorem c_X5_couple (N : Nat) : zk_C yX5_couple cX5_couple 3 (some .int) ({ frames := 1, cells := 0, slots := 0, locals := 26 } : Room) zq_I (g_X5_couple N) := by
  refine zk_met ?κ (by decide +kernel) ?hG ?body
  case body =>
    intro X E C
    have C : zk_X X E RX5 cX5_couple 3 (some .int) ({ frames := 1, cells := 0, slots := 0, locals := 26 } : Room) := C
    have h61 := zs_iret C dX5_couple_61
    have h60 := zs_isub C dX5_couple_60 h61
    have h59 := zs_iconst (v := 1) C dX5_couple_59 (by decide) h60
    have h58 := zs_iald (n := 32) C dX5_couple_58 (by decide) h59
    have h57 := zs_iconst (v := 0) C dX5_couple_57 (by decide) h58
    have h54 := zs_gR C dX5_couple_54 zf_5_0 zw_543 h57
    have h53 := zs_aload_n (i := 0) C dX5_couple_53 rfl h54
    have h50 := zs_pI C dX5_couple_50 zf_5_3 zw_546 rfl (by decide +kernel) h53
    have h49 := zs_iconst (v := 0) C dX5_couple_49 (by decide) h50
    have h48 := zs_aload_n (i := 0) C dX5_couple_48 rfl h49
    have h45 := zs_sV C dX5_couple_45 (m_X5_join N) zw_606 ⟨Nat.le_of_ble_eq_true rfl, Nat.le_of_ble_eq_true rfl⟩ h48
    have h44 := zs_iconst (v := 0) C dX5_couple_44 (by decide) h45
    have h43 := zs_iconst (v := 0) C dX5_couple_43 (by decide) h44
    have h41 := zs_bipush (v := 40) C dX5_couple_41 (by decide) h43
    have h40 := zs_iload_n (i := 2) C dX5_couple_40 rfl h41
    have h39 := zs_iload_n (i := 1) C dX5_couple_39 rfl h40
    have h36 := zs_gR C dX5_couple_36 zf_5_0 zw_543 h39
    have h35 := zs_aload_n (i := 0) C dX5_couple_35 rfl h36
    have h34 := zs_iret C dX5_couple_34
    have h32 := zs_bipush (v := (-3)) C dX5_couple_32 (by decide) h34
    have h29 := zs_icmp_ne (tgt := 35) C dX5_couple_29 (by decide) h35 h32
    have h27 := zs_bipush (v := 7) C dX5_couple_27 (by decide) h29
    have h26 := zs_iald (n := 32) C dX5_couple_26 (by decide) h27
    have h25 := zs_iconst (v := 0) C dX5_couple_25 (by decide) h26
    have h22 := zs_gR C dX5_couple_22 zf_5_0 zw_543 h25
    have h21 := zs_aload_n (i := 0) C dX5_couple_21 rfl h22
    have h20 := zs_iret C dX5_couple_20
    have h19 := zs_iconst (v := (-1)) C dX5_couple_19 (by decide) h20
    have h16 := zs_if_ne (tgt := 21) C dX5_couple_16 (by decide) h21 h19
    have h13 := zs_sI C dX5_couple_13 (m_X5_in N) zw_603 ⟨Nat.le_of_ble_eq_true rfl, Nat.le_of_ble_eq_true rfl⟩ h16
    have h11 := zs_bipush (v := 80) C dX5_couple_11 (by decide) h13
    have h10 := zs_iconst (v := 0) C dX5_couple_10 (by decide) h11
    have h9 := zs_iload_n (i := 2) C dX5_couple_9 rfl h10
    have h6 := zs_if_eq (tgt := 19) C dX5_couple_6 (by decide) h19 h9
    have h3 := zs_sI C dX5_couple_3 (m_X5_in N) zw_603 ⟨Nat.le_of_ble_eq_true rfl, Nat.le_of_ble_eq_true rfl⟩ h6
    have h2 := zs_iconst (v := 4) C dX5_couple_2 (by decide) h3
    have h1 := zs_iconst (v := 0) C dX5_couple_1 (by decide) h2
    have h0 := zs_iload_n (i := 1) C dX5_couple_0 rfl h1
    exact h0
  case hG =>
    intro as μ r h
    obtain ⟨x0, x1, x2, rfl, h⟩ := g_X5_couple_i h
    exact ⟨Nat.le_of_ble_eq_true rfl, h⟩
theorem m_X5_couple (N : Nat) : zk_MV yX5_couple cX5_couple 3 (some .int) ({ frames := 1, cells := 0, slots := 0, locals := 26 } : Room) zq_I (g_X5_couple N) 2 5 := ⟨c_X5_couple N, zw_602, zw_600, zw_601, zw_31, rfl, rfl, by decide +kernel, by decide, ⟨TX5, 18, rfl⟩, fun as μ r h => by obtain ⟨x0, x1, x2, rfl, -⟩ := g_X5_couple_i h; exact ⟨_, _, rfl⟩⟩
-- LongestWedModel.isCouple(I)Z
def f_X5_isCouple (N : Nat) (x0 : Nat) (x1 : Int32) (μ : ZM) : Option (Int32 × ZM) :=
  (f_X5_in N x1 0 ((μ.1 (x0 + 1) 0) - 1) μ).bind fun r1 =>
  zk_zr r1.1 r1.2
def g_X5_isCouple (N : Nat) (as : List ZV) (μ : ZM) : Option (Int32 × ZM) := match as with
  | [.inr (.inr (5, x0)), .inl x1] => f_X5_isCouple N x0 x1 μ
  | _ => none
theorem g_X5_isCouple_i {N : Nat} {as : List ZV} {μ : ZM} {r : Int32 × ZM} (h : g_X5_isCouple N as μ = some r) : ∃ (x0 : Nat) (x1 : Int32), as = [.inr (.inr (5, x0)), .inl x1] ∧ f_X5_isCouple N x0 x1 μ = some r := by
  unfold g_X5_isCouple at h
  split at h
  · exact ⟨_, _, rfl, h⟩
  · cases h
set_option maxRecDepth 100000 in
theorem c_X5_isCouple (N : Nat) : zk_C yX5_isCouple cX5_isCouple 2 (some .boolean) ({ frames := 1, cells := 0, slots := 0, locals := 22 } : Room) zq_I (g_X5_isCouple N) := by
  refine zk_met ?κ (by decide +kernel) ?hG ?body
  case body =>
    intro X E C
    have C : zk_X X E RX5 cX5_isCouple 2 (some .boolean) ({ frames := 1, cells := 0, slots := 0, locals := 22 } : Room) := C
    have h13 := zs_zret C dX5_isCouple_13
    have h10 := zs_sI C dX5_isCouple_10 (m_X5_in N) zw_603 ⟨Nat.le_of_ble_eq_true rfl, Nat.le_of_ble_eq_true rfl⟩ h13
    have h9 := zs_isub C dX5_isCouple_9 h10
    have h8 := zs_iconst (v := 1) C dX5_isCouple_8 (by decide) h9
    have h7 := zs_iald (n := 32) C dX5_isCouple_7 (by decide) h8
    have h6 := zs_iconst (v := 0) C dX5_isCouple_6 (by decide) h7
    have h3 := zs_gR C dX5_isCouple_3 zf_5_0 zw_543 h6
    have h2 := zs_aload_n (i := 0) C dX5_isCouple_2 rfl h3
    have h1 := zs_iconst (v := 0) C dX5_isCouple_1 (by decide) h2
    have h0 := zs_iload_n (i := 1) C dX5_isCouple_0 rfl h1
    exact h0
  case hG =>
    intro as μ r h
    obtain ⟨x0, x1, rfl, h⟩ := g_X5_isCouple_i h
    exact ⟨Nat.le_of_ble_eq_true rfl, h⟩
theorem m_X5_isCouple (N : Nat) : zk_MV yX5_isCouple cX5_isCouple 2 (some .boolean) ({ frames := 1, cells := 0, slots := 0, locals := 22 } : Room) zq_I (g_X5_isCouple N) 1 5 := ⟨c_X5_isCouple N, zw_616, zw_615, zw_13, zw_31, rfl, rfl, by decide +kernel, by decide, ⟨TX5, 18, rfl⟩, fun as μ r h => by obtain ⟨x0, x1, rfl, -⟩ := g_X5_isCouple_i h; exact ⟨_, _, rfl⟩⟩
-- LongestWedModel.has(II)Z
def f_X5_has (N : Nat) (x0 : Int32) (x1 : Int32) (μ : ZM) : Option (Int32 × ZM) :=
  if ¬ ((x0 >>> (x1 &&& 31)) &&& 1) = (1 : Int32) then
    zk_zr 0 μ
  else
    zk_zr 1 μ
def g_X5_has (N : Nat) (as : List ZV) (μ : ZM) : Option (Int32 × ZM) := match as with
  | [.inl x0, .inl x1] => f_X5_has N x0 x1 μ
  | _ => none
theorem g_X5_has_i {N : Nat} {as : List ZV} {μ : ZM} {r : Int32 × ZM} (h : g_X5_has N as μ = some r) : ∃ (x0 : Int32) (x1 : Int32), as = [.inl x0, .inl x1] ∧ f_X5_has N x0 x1 μ = some r := by
  unfold g_X5_has at h
  split at h
  · exact ⟨_, _, rfl, h⟩
  · cases h
set_option maxRecDepth 100000 in
theorem c_X5_has (N : Nat) : zk_C yX5_has cX5_has 2 (some .boolean) ({ frames := 0, cells := 0, slots := 0, locals := 0 } : Room) zq_I (g_X5_has N) := by
  refine zk_met ?κ (by decide +kernel) ?hG ?body
  case body =>
    intro X E C
    have C : zk_X X E RX5 cX5_has 2 (some .boolean) ({ frames := 0, cells := 0, slots := 0, locals := 0 } : Room) := C
    have h14 := zs_zret C dX5_has_14
    have h13 := zs_iconst (v := 0) C dX5_has_13 (by decide) h14
    have h10 := zs_goto (tgt := 14) C dX5_has_10 (by decide) h14
    have h9 := zs_iconst (v := 1) C dX5_has_9 (by decide) h10
    have h6 := zs_icmp_ne (tgt := 13) C dX5_has_6 (by decide) h13 h9
    have h5 := zs_iconst (v := 1) C dX5_has_5 (by decide) h6
    have h4 := zs_iand C dX5_has_4 h5
    have h3 := zs_iconst (v := 1) C dX5_has_3 (by decide) h4
    have h2 := zs_ishr C dX5_has_2 h3
    have h1 := zs_iload_n (i := 1) C dX5_has_1 rfl h2
    have h0 := zs_iload_n (i := 0) C dX5_has_0 rfl h1
    exact h0
  case hG =>
    intro as μ r h
    obtain ⟨x0, x1, rfl, h⟩ := g_X5_has_i h
    exact ⟨Nat.le_of_ble_eq_true rfl, h⟩
theorem m_X5_has (N : Nat) : zk_MS yX5_has cX5_has 2 (some .boolean) ({ frames := 0, cells := 0, slots := 0, locals := 0 } : Room) zq_I (g_X5_has N) 2 := ⟨c_X5_has N, zw_622, zw_621, zw_31, rfl, rfl, by decide +kernel⟩
-- LongestWedModel.isParted([II)Z
def f_X5_isParted (N : Nat) (x0 : Nat) (x1 : Int32) (μ : ZM) : Option (Int32 × ZM) :=
  (f_X5_has N (μ.1 x0 2) x1 μ).bind fun r1 =>
  zk_zr r1.1 r1.2
def g_X5_isParted (N : Nat) (as : List ZV) (μ : ZM) : Option (Int32 × ZM) := match as with
  | [.inr (.inr (1032, x0)), .inl x1] => f_X5_isParted N x0 x1 μ
  | _ => none
theorem g_X5_isParted_i {N : Nat} {as : List ZV} {μ : ZM} {r : Int32 × ZM} (h : g_X5_isParted N as μ = some r) : ∃ (x0 : Nat) (x1 : Int32), as = [.inr (.inr (1032, x0)), .inl x1] ∧ f_X5_isParted N x0 x1 μ = some r := by
  unfold g_X5_isParted at h
  split at h
  · exact ⟨_, _, rfl, h⟩
  · cases h
set_option maxRecDepth 100000 in
theorem c_X5_isParted (N : Nat) : zk_C yX5_isParted cX5_isParted 2 (some .boolean) ({ frames := 1, cells := 0, slots := 0, locals := 21 } : Room) zq_I (g_X5_isParted N) := by
  refine zk_met ?κ (by decide +kernel) ?hG ?body
  case body =>
    intro X E C
    have C : zk_X X E RX5 cX5_isParted 2 (some .boolean) ({ frames := 1, cells := 0, slots := 0, locals := 21 } : Room) := C
    have h7 := zs_zret C dX5_isParted_7
    have h4 := zs_sI C dX5_isParted_4 (m_X5_has N) zw_620 ⟨Nat.le_of_ble_eq_true rfl, Nat.le_of_ble_eq_true rfl⟩ h7
    have h3 := zs_iload_n (i := 1) C dX5_isParted_3 rfl h4
    have h2 := zs_iald (n := 32) C dX5_isParted_2 (by decide) h3
    have h1 := zs_iconst (v := 2) C dX5_isParted_1 (by decide) h2
    have h0 := zs_aload_n (i := 0) C dX5_isParted_0 rfl h1
    exact h0
  case hG =>
    intro as μ r h
    obtain ⟨x0, x1, rfl, h⟩ := g_X5_isParted_i h
    exact ⟨Nat.le_of_ble_eq_true rfl, h⟩
theorem m_X5_isParted (N : Nat) : zk_MS yX5_isParted cX5_isParted 2 (some .boolean) ({ frames := 1, cells := 0, slots := 0, locals := 21 } : Room) zq_I (g_X5_isParted N) 2 := ⟨c_X5_isParted N, zw_619, zw_618, zw_31, rfl, rfl, by decide +kernel⟩
-- LongestWedModel.longest([II)I
def f_X5_longest_L9 (N : Nat) : Nat → Nat → Int32 → Int32 → Int32 → ZM → Option (Int32 × ZM)
  | 0, _, _, _, _, _ => none
  | n + 1, x0, x1, x2, x3, μ =>
    if x3 < 0 then
      some (x2, μ)
    else
      (f_X5_isParted N x0 x3 μ).bind fun r1 =>
      let j31 : Int32 → Option (Int32 × ZM) := fun b2 =>
        let j63 : Unit → Option (Int32 × ZM) := fun u3 =>
          f_X5_longest_L9 N n x0 x1 x2 (x3 + (-1)) r1.2
        if b2 = 0 then
          j63 ()
        else
          let j59 : Unit → Option (Int32 × ZM) := fun u4 =>
            f_X5_longest_L9 N n x0 x1 x3 (x3 + (-1)) r1.2
          if x2 = (-4 : Int32) then
            j59 ()
          else
            if zk_o (11 + x3) 32 = true then none else
            if zk_o (11 + x2) 32 = true then none else
            if (r1.2.1 x0 (Int32.toNatClampNeg (11 + x3))) < (r1.2.1 x0 (Int32.toNatClampNeg (11 + x2))) then
              j63 ()
            else
              j59 ()
      let j30 : Unit → Option (Int32 × ZM) := fun u5 =>
        j31 0
      if ¬ r1.1 = 0 then
        j30 ()
      else
        if x3 = x1 then
          j30 ()
        else
          j31 1
def k_X5_longest_L9 (N n : Nat) : ZK (Int32 × ZM) := fun L st μ => match L, st with
  | [some (.inr (.inr (1032, x0))), some (.inl x1), some (.inl x2), some (.inl x3), _], [] => f_X5_longest_L9 N n x0 x1 x2 x3 μ
  | _, _ => none
theorem k_X5_longest_L9_i {N : Nat} {n : Nat} {L : ZL} {st : List ZV} {μ : ZM} {r : Int32 × ZM} (h : k_X5_longest_L9 N n L st μ = some r) : ∃ (x0 : Nat) (x1 : Int32) (x2 : Int32) (x3 : Int32) (u4 : Option ZV), L = [some (.inr (.inr (1032, x0))), some (.inl x1), some (.inl x2), some (.inl x3), u4] ∧ st = [] ∧ f_X5_longest_L9 N n x0 x1 x2 x3 μ = some r := by
  unfold k_X5_longest_L9 at h
  split at h
  · exact ⟨_, _, _, _, _, rfl, rfl, h⟩
  · cases h
set_option maxRecDepth 100000 in
theorem s_X5_longest_L9 (N : Nat) {X : ZX} {E : ZE} (C : zk_X X E RX5 cX5_longest 5 (some .int) ({ frames := 2, cells := 0, slots := 0, locals := 42 } : Room)) : ∀ n, zk_S X E 5 zq_I 9 (k_X5_longest_L9 N n) := by
  intro n
  induction n with
  | zero =>
    intro H locs ls L st μ r h hL hst hW hS
    obtain ⟨x0, x1, x2, x3, u4, rfl, rfl, h⟩ := k_X5_longest_L9_i h
    exact nomatch (show none = some r from h)
  | succ n ih =>
    have h72 := zs_iret C dX5_longest_72
    have h71 := zs_iload_n (i := 2) C dX5_longest_71 rfl h72
    have h68 := zs_goto (tgt := 9) C dX5_longest_68 (by decide) ih
    have h65 := zs_iinc (n := (-1)) C dX5_longest_65 (by decide) h68
    have h64 := zs_istore_n (i := 2) C dX5_longest_64 rfl h65
    have h63 := zs_iload_n (i := 2) C dX5_longest_63 rfl h64
    have h60 := zs_goto (tgt := 64) C dX5_longest_60 (by decide) h64
    have h59 := zs_iload_n (i := 3) C dX5_longest_59 rfl h60
    have h56 := zs_icmp_lt (tgt := 63) C dX5_longest_56 (by decide) h63 h59
    have h55 := zs_iald (n := 32) C dX5_longest_55 (by decide) h56
    have h54 := zs_iadd C dX5_longest_54 h55
    have h53 := zs_iload_n (i := 2) C dX5_longest_53 rfl h54
    have h51 := zs_bipush (v := 11) C dX5_longest_51 (by decide) h53
    have h50 := zs_aload_n (i := 0) C dX5_longest_50 rfl h51
    have h49 := zs_iald (n := 32) C dX5_longest_49 (by decide) h50
    have h48 := zs_iadd C dX5_longest_48 h49
    have h47 := zs_iload_n (i := 3) C dX5_longest_47 rfl h48
    have h45 := zs_bipush (v := 11) C dX5_longest_45 (by decide) h47
    have h44 := zs_aload_n (i := 0) C dX5_longest_44 rfl h45
    have h41 := zs_icmp_eq (tgt := 59) C dX5_longest_41 (by decide) h59 h44
    have h39 := zs_bipush (v := (-4)) C dX5_longest_39 (by decide) h41
    have h38 := zs_iload_n (i := 2) C dX5_longest_38 rfl h39
    have h35 := zs_if_eq (tgt := 63) C dX5_longest_35 (by decide) h63 h38
    have h33 := zs_iload (i := 4) C dX5_longest_33 h35
    have h31 := zs_istore (i := 4) C dX5_longest_31 h33
    have h30 := zs_iconst (v := 0) C dX5_longest_30 (by decide) h31
    have h27 := zs_goto (tgt := 31) C dX5_longest_27 (by decide) h31
    have h26 := zs_iconst (v := 1) C dX5_longest_26 (by decide) h27
    have h23 := zs_icmp_eq (tgt := 30) C dX5_longest_23 (by decide) h30 h26
    have h22 := zs_iload_n (i := 1) C dX5_longest_22 rfl h23
    have h21 := zs_iload_n (i := 3) C dX5_longest_21 rfl h22
    have h18 := zs_if_ne (tgt := 30) C dX5_longest_18 (by decide) h30 h21
    have h15 := zs_sI C dX5_longest_15 (m_X5_isParted N) zw_617 ⟨Nat.le_of_ble_eq_true rfl, Nat.le_of_ble_eq_true rfl⟩ h18
    have h14 := zs_iload_n (i := 3) C dX5_longest_14 rfl h15
    have h13 := zs_aload_n (i := 0) C dX5_longest_13 rfl h14
    have h10 := zs_if_lt (tgt := 71) C dX5_longest_10 (by decide) h71 h13
    have h9 := zs_iload_n (i := 3) C dX5_longest_9 rfl h10
    intro H locs ls L st μ r h hL hst hW hS
    obtain ⟨x0, x1, x2, x3, u4, rfl, rfl, h⟩ := k_X5_longest_L9_i h
    exact h9 H locs ls [some (.inr (.inr (1032, x0))), some (.inl x1), some (.inl x2), some (.inl x3), none] [] μ r h (hL.less ⟨rfl, rfl, rfl, rfl, trivial⟩) hst hW hS
def f_X5_longest (N : Nat) (x0 : Nat) (x1 : Int32) (μ : ZM) : Option (Int32 × ZM) :=
  f_X5_longest_L9 N N x0 x1 (-4) ((μ.1 x0 0) - 1) μ
def g_X5_longest (N : Nat) (as : List ZV) (μ : ZM) : Option (Int32 × ZM) := match as with
  | [.inr (.inr (1032, x0)), .inl x1] => f_X5_longest N x0 x1 μ
  | _ => none
theorem g_X5_longest_i {N : Nat} {as : List ZV} {μ : ZM} {r : Int32 × ZM} (h : g_X5_longest N as μ = some r) : ∃ (x0 : Nat) (x1 : Int32), as = [.inr (.inr (1032, x0)), .inl x1] ∧ f_X5_longest N x0 x1 μ = some r := by
  unfold g_X5_longest at h
  split at h
  · exact ⟨_, _, rfl, h⟩
  · cases h
set_option maxRecDepth 100000 in
theorem c_X5_longest (N : Nat) : zk_C yX5_longest cX5_longest 5 (some .int) ({ frames := 2, cells := 0, slots := 0, locals := 42 } : Room) zq_I (g_X5_longest N) := by
  refine zk_met ?κ (by decide +kernel) ?hG ?body
  case body =>
    intro X E C
    have C : zk_X X E RX5 cX5_longest 5 (some .int) ({ frames := 2, cells := 0, slots := 0, locals := 42 } : Room) := C
    have e9 := s_X5_longest_L9 N C N
    have h8 := zs_istore_n (i := 3) C dX5_longest_8 rfl e9
    have h7 := zs_isub C dX5_longest_7 h8
    have h6 := zs_iconst (v := 1) C dX5_longest_6 (by decide) h7
    have h5 := zs_iald (n := 32) C dX5_longest_5 (by decide) h6
    have h4 := zs_iconst (v := 0) C dX5_longest_4 (by decide) h5
    have h3 := zs_aload_n (i := 0) C dX5_longest_3 rfl h4
    have h2 := zs_istore_n (i := 2) C dX5_longest_2 rfl h3
    have h0 := zs_bipush (v := (-4)) C dX5_longest_0 (by decide) h2
    exact h0
  case hG =>
    intro as μ r h
    obtain ⟨x0, x1, rfl, h⟩ := g_X5_longest_i h
    exact ⟨Nat.le_of_ble_eq_true rfl, h⟩
theorem m_X5_longest (N : Nat) : zk_MS yX5_longest cX5_longest 5 (some .int) ({ frames := 2, cells := 0, slots := 0, locals := 42 } : Room) zq_I (g_X5_longest N) 2 := ⟨c_X5_longest N, zw_631, zw_630, zw_31, rfl, rfl, by decide +kernel⟩
-- LongestWedModel.keysOf([I)I
def f_X5_keysOf (N : Nat) (x0 : Nat) (μ : ZM) : Option (Int32 × ZM) :=
  (f_X5_longest N x0 (-4) μ).bind fun r1 =>
  some (r1.1, r1.2)
def g_X5_keysOf (N : Nat) (as : List ZV) (μ : ZM) : Option (Int32 × ZM) := match as with
  | [.inr (.inr (1032, x0))] => f_X5_keysOf N x0 μ
  | _ => none
theorem g_X5_keysOf_i {N : Nat} {as : List ZV} {μ : ZM} {r : Int32 × ZM} (h : g_X5_keysOf N as μ = some r) : ∃ (x0 : Nat), as = [.inr (.inr (1032, x0))] ∧ f_X5_keysOf N x0 μ = some r := by
  unfold g_X5_keysOf at h
  split at h
  · exact ⟨_, rfl, h⟩
  · cases h
set_option maxRecDepth 100000 in
theorem c_X5_keysOf (N : Nat) : zk_C yX5_keysOf cX5_keysOf 1 (some .int) ({ frames := 3, cells := 0, slots := 0, locals := 66 } : Room) zq_I (g_X5_keysOf N) := by
  refine zk_met ?κ (by decide +kernel) ?hG ?body
  case body =>
    intro X E C
    have C : zk_X X E RX5 cX5_keysOf 1 (some .int) ({ frames := 3, cells := 0, slots := 0, locals := 66 } : Room) := C
    have h6 := zs_iret C dX5_keysOf_6
    have h3 := zs_sI C dX5_keysOf_3 (m_X5_longest N) zw_629 ⟨Nat.le_of_ble_eq_true rfl, Nat.le_of_ble_eq_true rfl⟩ h6
    have h1 := zs_bipush (v := (-4)) C dX5_keysOf_1 (by decide) h3
    have h0 := zs_aload_n (i := 0) C dX5_keysOf_0 rfl h1
    exact h0
  case hG =>
    intro as μ r h
    obtain ⟨x0, rfl, h⟩ := g_X5_keysOf_i h
    exact ⟨Nat.le_of_ble_eq_true rfl, h⟩
theorem m_X5_keysOf (N : Nat) : zk_MS yX5_keysOf cX5_keysOf 1 (some .int) ({ frames := 3, cells := 0, slots := 0, locals := 66 } : Room) zq_I (g_X5_keysOf N) 1 := ⟨c_X5_keysOf N, zw_628, zw_627, zw_31, rfl, rfl, by decide +kernel⟩
-- LongestWedModel.secondOf([I)I
def f_X5_secondOf (N : Nat) (x0 : Nat) (μ : ZM) : Option (Int32 × ZM) :=
  (f_X5_keysOf N x0 μ).bind fun r1 =>
  if ¬ r1.1 = (-4 : Int32) then
    (f_X5_longest N x0 r1.1 r1.2).bind fun r2 =>
    some (r2.1, r2.2)
  else
    some ((-4), r1.2)
def g_X5_secondOf (N : Nat) (as : List ZV) (μ : ZM) : Option (Int32 × ZM) := match as with
  | [.inr (.inr (1032, x0))] => f_X5_secondOf N x0 μ
  | _ => none
theorem g_X5_secondOf_i {N : Nat} {as : List ZV} {μ : ZM} {r : Int32 × ZM} (h : g_X5_secondOf N as μ = some r) : ∃ (x0 : Nat), as = [.inr (.inr (1032, x0))] ∧ f_X5_secondOf N x0 μ = some r := by
  unfold g_X5_secondOf at h
  split at h
  · exact ⟨_, rfl, h⟩
  · cases h
set_option maxRecDepth 100000 in
theorem c_X5_secondOf (N : Nat) : zk_C yX5_secondOf cX5_secondOf 2 (some .int) ({ frames := 4, cells := 0, slots := 0, locals := 86 } : Room) zq_I (g_X5_secondOf N) := by
  refine zk_met ?κ (by decide +kernel) ?hG ?body
  case body =>
    intro X E C
    have C : zk_X X E RX5 cX5_secondOf 2 (some .int) ({ frames := 4, cells := 0, slots := 0, locals := 86 } : Room) := C
    have h21 := zs_iret C dX5_secondOf_21
    have h18 := zs_sI C dX5_secondOf_18 (m_X5_longest N) zw_629 ⟨Nat.le_of_ble_eq_true rfl, Nat.le_of_ble_eq_true rfl⟩ h21
    have h17 := zs_iload_n (i := 1) C dX5_secondOf_17 rfl h18
    have h16 := zs_aload_n (i := 0) C dX5_secondOf_16 rfl h17
    have h13 := zs_goto (tgt := 21) C dX5_secondOf_13 (by decide) h21
    have h11 := zs_bipush (v := (-4)) C dX5_secondOf_11 (by decide) h13
    have h8 := zs_icmp_ne (tgt := 16) C dX5_secondOf_8 (by decide) h16 h11
    have h6 := zs_bipush (v := (-4)) C dX5_secondOf_6 (by decide) h8
    have h5 := zs_iload_n (i := 1) C dX5_secondOf_5 rfl h6
    have h4 := zs_istore_n (i := 1) C dX5_secondOf_4 rfl h5
    have h1 := zs_sI C dX5_secondOf_1 (m_X5_keysOf N) zw_626 ⟨Nat.le_of_ble_eq_true rfl, Nat.le_of_ble_eq_true rfl⟩ h4
    have h0 := zs_aload_n (i := 0) C dX5_secondOf_0 rfl h1
    exact h0
  case hG =>
    intro as μ r h
    obtain ⟨x0, rfl, h⟩ := g_X5_secondOf_i h
    exact ⟨Nat.le_of_ble_eq_true rfl, h⟩
theorem m_X5_secondOf (N : Nat) : zk_MS yX5_secondOf cX5_secondOf 2 (some .int) ({ frames := 4, cells := 0, slots := 0, locals := 86 } : Room) zq_I (g_X5_secondOf N) 1 := ⟨c_X5_secondOf N, zw_634, zw_633, zw_31, rfl, rfl, by decide +kernel⟩
-- LongestWedModel.worseBy([II)I
def f_X5_worseBy_J52 (N : Nat) (x0 : Nat) (x1 : Int32) (x3 : Int32) (x4 : Int32) (s0 : Int32) (μ : ZM) : Option (Int32 × ZM) :=
  if zk_o (4 + x1) 32 = true then none else
  if (μ.1 x0 (Int32.toNatClampNeg (4 + x1))) = 0 then
    some (x3, μ)
  else
  if (μ.1 x0 (Int32.toNatClampNeg (4 + x1))) = 1 then
    some (x4, μ)
  else
  if (μ.1 x0 (Int32.toNatClampNeg (4 + x1))) = 2 then
    some (s0, μ)
  else
  if (μ.1 x0 (Int32.toNatClampNeg (4 + x1))) = 3 then
    if ¬ ((μ.1 x0 1) - (μ.1 x0 1) / 2 * 2) = 0 then
      some (0, μ)
    else
      some (x4, μ)
  else
    if zk_o (25 + x1) 32 = true then none else
    if (μ.1 x0 (Int32.toNatClampNeg (25 + x1))) < (10 : Int32) then
      some (s0, μ)
    else
      some ((s0 + 3), μ)
def k_X5_worseBy_J52 (N : Nat) : ZK (Int32 × ZM) := fun L st μ => match L, st with
  | [some (.inr (.inr (1032, x0))), some (.inl x1), _, some (.inl x3), some (.inl x4), _], [.inl s0] => f_X5_worseBy_J52 N x0 x1 x3 x4 s0 μ
  | _, _ => none
theorem k_X5_worseBy_J52_i {N : Nat} {L : ZL} {st : List ZV} {μ : ZM} {r : Int32 × ZM} (h : k_X5_worseBy_J52 N L st μ = some r) : ∃ (x0 : Nat) (x1 : Int32) (x3 : Int32) (x4 : Int32) (s0 : Int32) (u2 : Option ZV) (u5 : Option ZV), L = [some (.inr (.inr (1032, x0))), some (.inl x1), u2, some (.inl x3), some (.inl x4), u5] ∧ st = [.inl s0] ∧ f_X5_worseBy_J52 N x0 x1 x3 x4 s0 μ = some r := by
  unfold k_X5_worseBy_J52 at h
  split at h
  · exact ⟨_, _, _, _, _, _, _, rfl, rfl, h⟩
  · cases h
set_option maxRecDepth 100000 in
theorem s_X5_worseBy_J52 (N : Nat) {X : ZX} {E : ZE} (C : zk_X X E RX5 cX5_worseBy 6 (some .int) ({ frames := 5, cells := 0, slots := 0, locals := 107 } : Room)) : zk_S X E 6 zq_I 52 (k_X5_worseBy_J52 N) := by
  have h131 := zs_iret C dX5_worseBy_131
  have h129 := zs_iload (i := 5) C dX5_worseBy_129 h131
  have h126 := zs_goto (tgt := 131) C dX5_worseBy_126 (by decide) h131
  have h125 := zs_iadd C dX5_worseBy_125 h126
  have h124 := zs_iconst (v := 3) C dX5_worseBy_124 (by decide) h125
  have h122 := zs_iload (i := 5) C dX5_worseBy_122 h124
  have h119 := zs_icmp_lt (tgt := 129) C dX5_worseBy_119 (by decide) h129 h122
  have h117 := zs_bipush (v := 10) C dX5_worseBy_117 (by decide) h119
  have h116 := zs_iald (n := 32) C dX5_worseBy_116 (by decide) h117
  have h115 := zs_iadd C dX5_worseBy_115 h116
  have h114 := zs_iload_n (i := 1) C dX5_worseBy_114 rfl h115
  have h112 := zs_bipush (v := 25) C dX5_worseBy_112 (by decide) h114
  have h111 := zs_aload_n (i := 0) C dX5_worseBy_111 rfl h112
  have h110 := zs_iret C dX5_worseBy_110
  have h109 := zs_iconst (v := 0) C dX5_worseBy_109 (by decide) h110
  have h106 := zs_goto (tgt := 110) C dX5_worseBy_106 (by decide) h110
  have h104 := zs_iload (i := 4) C dX5_worseBy_104 h106
  have h101 := zs_if_ne (tgt := 109) C dX5_worseBy_101 (by decide) h109 h104
  have h100 := zs_irem C dX5_worseBy_100 h101
  have h99 := zs_iconst (v := 2) C dX5_worseBy_99 (by decide) h100
  have h98 := zs_iald (n := 32) C dX5_worseBy_98 (by decide) h99
  have h97 := zs_iconst (v := 1) C dX5_worseBy_97 (by decide) h98
  have h96 := zs_aload_n (i := 0) C dX5_worseBy_96 rfl h97
  have h95 := zs_iret C dX5_worseBy_95
  have h93 := zs_iload (i := 5) C dX5_worseBy_93 h95
  have h92 := zs_iret C dX5_worseBy_92
  have h90 := zs_iload (i := 4) C dX5_worseBy_90 h92
  have h89 := zs_iret C dX5_worseBy_89
  have h88 := zs_iload_n (i := 3) C dX5_worseBy_88 rfl h89
  have h59 := zs_tab (q := zq_I) (cs := [(0, _), (1, _), (2, _), (3, _)]) (xs := [0, 1, 2, 3]) (tg := (fun x => if x = 0 then 88 else if x = 1 then 90 else if x = 2 then 93 else if x = 3 then 96 else 0)) (tgt := 111) C dX5_worseBy_59 (by decide) (by decide) rfl (by decide +kernel) (by decide +kernel) (List.forall_mem_cons.mpr ⟨h88, (List.forall_mem_cons.mpr ⟨h90, (List.forall_mem_cons.mpr ⟨h93, (List.forall_mem_cons.mpr ⟨h96, (fun _ h => absurd h List.not_mem_nil)⟩)⟩)⟩)⟩) h111
  have h58 := zs_iald (n := 32) C dX5_worseBy_58 (by decide) h59
  have h57 := zs_iadd C dX5_worseBy_57 h58
  have h56 := zs_iload_n (i := 1) C dX5_worseBy_56 rfl h57
  have h55 := zs_iconst (v := 4) C dX5_worseBy_55 (by decide) h56
  have h54 := zs_aload_n (i := 0) C dX5_worseBy_54 rfl h55
  have h52 := zs_istore (i := 5) C dX5_worseBy_52 h54
  intro H locs ls L st μ r h hL hst hW hS
  obtain ⟨x0, x1, x3, x4, s0, u2, u5, rfl, rfl, h⟩ := k_X5_worseBy_J52_i h
  exact h52 H locs ls [some (.inr (.inr (1032, x0))), some (.inl x1), none, some (.inl x3), some (.inl x4), none] [.inl s0] μ r h (hL.less ⟨rfl, rfl, rfl, rfl, trivial⟩) hst hW hS
def f_X5_worseBy_J35 (N : Nat) (x0 : Nat) (x1 : Int32) (x3 : Int32) (s0 : Int32) (μ : ZM) : Option (Int32 × ZM) :=
  (f_X5_secondOf N x0 μ).bind fun r1 =>
  if ¬ r1.1 = x1 then
    f_X5_worseBy_J52 N x0 x1 x3 s0 x3 r1.2
  else
    f_X5_worseBy_J52 N x0 x1 x3 s0 (x3 - 2) r1.2
def k_X5_worseBy_J35 (N : Nat) : ZK (Int32 × ZM) := fun L st μ => match L, st with
  | [some (.inr (.inr (1032, x0))), some (.inl x1), _, some (.inl x3), _, _], [.inl s0] => f_X5_worseBy_J35 N x0 x1 x3 s0 μ
  | _, _ => none
theorem k_X5_worseBy_J35_i {N : Nat} {L : ZL} {st : List ZV} {μ : ZM} {r : Int32 × ZM} (h : k_X5_worseBy_J35 N L st μ = some r) : ∃ (x0 : Nat) (x1 : Int32) (x3 : Int32) (s0 : Int32) (u2 : Option ZV) (u4 : Option ZV) (u5 : Option ZV), L = [some (.inr (.inr (1032, x0))), some (.inl x1), u2, some (.inl x3), u4, u5] ∧ st = [.inl s0] ∧ f_X5_worseBy_J35 N x0 x1 x3 s0 μ = some r := by
  unfold k_X5_worseBy_J35 at h
  split at h
  · exact ⟨_, _, _, _, _, _, _, rfl, rfl, h⟩
  · cases h
set_option maxRecDepth 100000 in
theorem s_X5_worseBy_J35 (N : Nat) {X : ZX} {E : ZE} (C : zk_X X E RX5 cX5_worseBy 6 (some .int) ({ frames := 5, cells := 0, slots := 0, locals := 107 } : Room)) : zk_S X E 6 zq_I 35 (k_X5_worseBy_J35 N) := by
  have e52 := s_X5_worseBy_J52 N C
  have h51 := zs_iload_n (i := 3) C dX5_worseBy_51 rfl e52
  have h48 := zs_goto (tgt := 52) C dX5_worseBy_48 (by decide) e52
  have h47 := zs_isub C dX5_worseBy_47 h48
  have h46 := zs_iconst (v := 2) C dX5_worseBy_46 (by decide) h47
  have h45 := zs_iload_n (i := 3) C dX5_worseBy_45 rfl h46
  have h42 := zs_icmp_ne (tgt := 51) C dX5_worseBy_42 (by decide) h51 h45
  have h41 := zs_iload_n (i := 1) C dX5_worseBy_41 rfl h42
  have h38 := zs_sI C dX5_worseBy_38 (m_X5_secondOf N) zw_632 ⟨Nat.le_of_ble_eq_true rfl, Nat.le_of_ble_eq_true rfl⟩ h41
  have h37 := zs_aload_n (i := 0) C dX5_worseBy_37 rfl h38
  have h35 := zs_istore (i := 4) C dX5_worseBy_35 h37
  intro H locs ls L st μ r h hL hst hW hS
  obtain ⟨x0, x1, x3, s0, u2, u4, u5, rfl, rfl, h⟩ := k_X5_worseBy_J35_i h
  exact h35 H locs ls [some (.inr (.inr (1032, x0))), some (.inl x1), none, some (.inl x3), none, none] [.inl s0] μ r h (hL.less ⟨rfl, rfl, rfl, trivial⟩) hst hW hS
def f_X5_worseBy_J23 (N : Nat) (x0 : Nat) (x1 : Int32) (x2 : Int32) (s0 : Int32) (μ : ZM) : Option (Int32 × ZM) :=
  if x2 = 0 then
    f_X5_worseBy_J35 N x0 x1 s0 s0 μ
  else
    f_X5_worseBy_J35 N x0 x1 s0 (s0 + 2) μ
def k_X5_worseBy_J23 (N : Nat) : ZK (Int32 × ZM) := fun L st μ => match L, st with
  | [some (.inr (.inr (1032, x0))), some (.inl x1), some (.inl x2), _, _, _], [.inl s0] => f_X5_worseBy_J23 N x0 x1 x2 s0 μ
  | _, _ => none
theorem k_X5_worseBy_J23_i {N : Nat} {L : ZL} {st : List ZV} {μ : ZM} {r : Int32 × ZM} (h : k_X5_worseBy_J23 N L st μ = some r) : ∃ (x0 : Nat) (x1 : Int32) (x2 : Int32) (s0 : Int32) (u3 : Option ZV) (u4 : Option ZV) (u5 : Option ZV), L = [some (.inr (.inr (1032, x0))), some (.inl x1), some (.inl x2), u3, u4, u5] ∧ st = [.inl s0] ∧ f_X5_worseBy_J23 N x0 x1 x2 s0 μ = some r := by
  unfold k_X5_worseBy_J23 at h
  split at h
  · exact ⟨_, _, _, _, _, _, _, rfl, rfl, h⟩
  · cases h
set_option maxRecDepth 100000 in
theorem s_X5_worseBy_J23 (N : Nat) {X : ZX} {E : ZE} (C : zk_X X E RX5 cX5_worseBy 6 (some .int) ({ frames := 5, cells := 0, slots := 0, locals := 107 } : Room)) : zk_S X E 6 zq_I 23 (k_X5_worseBy_J23 N) := by
  have e35 := s_X5_worseBy_J35 N C
  have h34 := zs_iload_n (i := 3) C dX5_worseBy_34 rfl e35
  have h31 := zs_goto (tgt := 35) C dX5_worseBy_31 (by decide) e35
  have h30 := zs_iadd C dX5_worseBy_30 h31
  have h29 := zs_iconst (v := 2) C dX5_worseBy_29 (by decide) h30
  have h28 := zs_iload_n (i := 3) C dX5_worseBy_28 rfl h29
  have h25 := zs_if_eq (tgt := 34) C dX5_worseBy_25 (by decide) h34 h28
  have h24 := zs_iload_n (i := 2) C dX5_worseBy_24 rfl h25
  have h23 := zs_istore_n (i := 3) C dX5_worseBy_23 rfl h24
  intro H locs ls L st μ r h hL hst hW hS
  obtain ⟨x0, x1, x2, s0, u3, u4, u5, rfl, rfl, h⟩ := k_X5_worseBy_J23_i h
  exact h23 H locs ls [some (.inr (.inr (1032, x0))), some (.inl x1), some (.inl x2), none, none, none] [.inl s0] μ r h (hL.less ⟨rfl, rfl, rfl, trivial⟩) hst hW hS
def f_X5_worseBy_J13 (N : Nat) (x0 : Nat) (x1 : Int32) (s0 : Int32) (μ : ZM) : Option (Int32 × ZM) :=
  if s0 = 0 then
    f_X5_worseBy_J23 N x0 x1 s0 (-1) μ
  else
    f_X5_worseBy_J23 N x0 x1 s0 1 μ
def k_X5_worseBy_J13 (N : Nat) : ZK (Int32 × ZM) := fun L st μ => match L, st with
  | [some (.inr (.inr (1032, x0))), some (.inl x1), _, _, _, _], [.inl s0] => f_X5_worseBy_J13 N x0 x1 s0 μ
  | _, _ => none
theorem k_X5_worseBy_J13_i {N : Nat} {L : ZL} {st : List ZV} {μ : ZM} {r : Int32 × ZM} (h : k_X5_worseBy_J13 N L st μ = some r) : ∃ (x0 : Nat) (x1 : Int32) (s0 : Int32) (u2 : Option ZV) (u3 : Option ZV) (u4 : Option ZV) (u5 : Option ZV), L = [some (.inr (.inr (1032, x0))), some (.inl x1), u2, u3, u4, u5] ∧ st = [.inl s0] ∧ f_X5_worseBy_J13 N x0 x1 s0 μ = some r := by
  unfold k_X5_worseBy_J13 at h
  split at h
  · exact ⟨_, _, _, _, _, _, _, rfl, rfl, h⟩
  · cases h
set_option maxRecDepth 100000 in
theorem s_X5_worseBy_J13 (N : Nat) {X : ZX} {E : ZE} (C : zk_X X E RX5 cX5_worseBy 6 (some .int) ({ frames := 5, cells := 0, slots := 0, locals := 107 } : Room)) : zk_S X E 6 zq_I 13 (k_X5_worseBy_J13 N) := by
  have e23 := s_X5_worseBy_J23 N C
  have h22 := zs_iconst (v := (-1)) C dX5_worseBy_22 (by decide) e23
  have h19 := zs_goto (tgt := 23) C dX5_worseBy_19 (by decide) e23
  have h18 := zs_iconst (v := 1) C dX5_worseBy_18 (by decide) h19
  have h15 := zs_if_eq (tgt := 22) C dX5_worseBy_15 (by decide) h22 h18
  have h14 := zs_iload_n (i := 2) C dX5_worseBy_14 rfl h15
  have h13 := zs_istore_n (i := 2) C dX5_worseBy_13 rfl h14
  intro H locs ls L st μ r h hL hst hW hS
  obtain ⟨x0, x1, s0, u2, u3, u4, u5, rfl, rfl, h⟩ := k_X5_worseBy_J13_i h
  exact h13 H locs ls [some (.inr (.inr (1032, x0))), some (.inl x1), none, none, none, none] [.inl s0] μ r h (hL.less ⟨rfl, rfl, trivial⟩) hst hW hS
def f_X5_worseBy (N : Nat) (x0 : Nat) (x1 : Int32) (μ : ZM) : Option (Int32 × ZM) :=
  (f_X5_keysOf N x0 μ).bind fun r1 =>
  if ¬ r1.1 = x1 then
    f_X5_worseBy_J13 N x0 x1 0 r1.2
  else
    f_X5_worseBy_J13 N x0 x1 1 r1.2
def g_X5_worseBy (N : Nat) (as : List ZV) (μ : ZM) : Option (Int32 × ZM) := match as with
  | [.inr (.inr (1032, x0)), .inl x1] => f_X5_worseBy N x0 x1 μ
  | _ => none
theorem g_X5_worseBy_i {N : Nat} {as : List ZV} {μ : ZM} {r : Int32 × ZM} (h : g_X5_worseBy N as μ = some r) : ∃ (x0 : Nat) (x1 : Int32), as = [.inr (.inr (1032, x0)), .inl x1] ∧ f_X5_worseBy N x0 x1 μ = some r := by
  unfold g_X5_worseBy at h
  split at h
  · exact ⟨_, _, rfl, h⟩
  · cases h
set_option maxRecDepth 100000 in
theorem c_X5_worseBy (N : Nat) : zk_C yX5_worseBy cX5_worseBy 6 (some .int) ({ frames := 5, cells := 0, slots := 0, locals := 107 } : Room) zq_I (g_X5_worseBy N) := by
  refine zk_met ?κ (by decide +kernel) ?hG ?body
  case body =>
    intro X E C
    have C : zk_X X E RX5 cX5_worseBy 6 (some .int) ({ frames := 5, cells := 0, slots := 0, locals := 107 } : Room) := C
    have e13 := s_X5_worseBy_J13 N C
    have h12 := zs_iconst (v := 0) C dX5_worseBy_12 (by decide) e13
    have h9 := zs_goto (tgt := 13) C dX5_worseBy_9 (by decide) e13
    have h8 := zs_iconst (v := 1) C dX5_worseBy_8 (by decide) h9
    have h5 := zs_icmp_ne (tgt := 12) C dX5_worseBy_5 (by decide) h12 h8
    have h4 := zs_iload_n (i := 1) C dX5_worseBy_4 rfl h5
    have h1 := zs_sI C dX5_worseBy_1 (m_X5_keysOf N) zw_626 ⟨Nat.le_of_ble_eq_true rfl, Nat.le_of_ble_eq_true rfl⟩ h4
    have h0 := zs_aload_n (i := 0) C dX5_worseBy_0 rfl h1
    exact h0
  case hG =>
    intro as μ r h
    obtain ⟨x0, x1, rfl, h⟩ := g_X5_worseBy_i h
    exact ⟨Nat.le_of_ble_eq_true rfl, h⟩
theorem m_X5_worseBy (N : Nat) : zk_MS yX5_worseBy cX5_worseBy 6 (some .int) ({ frames := 5, cells := 0, slots := 0, locals := 107 } : Room) zq_I (g_X5_worseBy N) 2 := ⟨c_X5_worseBy N, zw_625, zw_624, zw_31, rfl, rfl, by decide +kernel⟩
-- LongestWedModel.of(II)I
def f_X5_of (N : Nat) (x0 : Nat) (x1 : Int32) (x2 : Int32) (μ : ZM) : Option (Int32 × ZM) :=
  (f_X5_isCouple N x0 x1 μ).bind fun r1 =>
  if ¬ r1.1 = 0 then
    if x2 = 0 then
      if zk_o (4 + x1) 32 = true then none else
      some ((r1.2.1 (x0 + 1) (Int32.toNatClampNeg (4 + x1))), r1.2)
    else
    if x2 = 1 then
      if zk_o (11 + x1) 32 = true then none else
      some ((r1.2.1 (x0 + 1) (Int32.toNatClampNeg (11 + x1))), r1.2)
    else
    if x2 = 2 then
      if zk_o (18 + x1) 32 = true then none else
      some ((r1.2.1 (x0 + 1) (Int32.toNatClampNeg (18 + x1))), r1.2)
    else
    if x2 = 3 then
      if zk_o (25 + x1) 32 = true then none else
      some ((r1.2.1 (x0 + 1) (Int32.toNatClampNeg (25 + x1))), r1.2)
    else
    if x2 = 4 then
      (f_X5_isParted N (x0 + 1) x1 r1.2).bind fun r2 =>
      if r2.1 = 0 then
        some (0, r2.2)
      else
        some (1, r2.2)
    else
    if x2 = 5 then
      (f_X5_isParted N (x0 + 1) x1 r1.2).bind fun r3 =>
      if r3.1 = 0 then
        (f_X5_worseBy N (x0 + 1) x1 r3.2).bind fun r4 =>
        some ((r4.1 + 10), r4.2)
      else
        some (10, r3.2)
    else
      some ((-1), r1.2)
  else
    some ((-1), r1.2)
def g_X5_of (N : Nat) (as : List ZV) (μ : ZM) : Option (Int32 × ZM) := match as with
  | [.inr (.inr (5, x0)), .inl x1, .inl x2] => f_X5_of N x0 x1 x2 μ
  | _ => none
theorem g_X5_of_i {N : Nat} {as : List ZV} {μ : ZM} {r : Int32 × ZM} (h : g_X5_of N as μ = some r) : ∃ (x0 : Nat) (x1 : Int32) (x2 : Int32), as = [.inr (.inr (5, x0)), .inl x1, .inl x2] ∧ f_X5_of N x0 x1 x2 μ = some r := by
  unfold g_X5_of at h
  split at h
  · exact ⟨_, _, _, rfl, h⟩
  · cases h
set_option maxRecDepth 100000 in
theorem c_X5_of (N : Nat) : zk_C yX5_of cX5_of 3 (some .int) ({ frames := 6, cells := 0, slots := 0, locals := 132 } : Room) zq_I (g_X5_of N) := by
  refine zk_met ?κ (by decide +kernel) ?hG ?body
  case body =>
    intro X E C
    have C : zk_X X E RX5 cX5_of 3 (some .int) ({ frames := 6, cells := 0, slots := 0, locals := 132 } : Room) := C
    have h133 := zs_iret C dX5_of_133
    have h132 := zs_iconst (v := (-1)) C dX5_of_132 (by decide) h133
    have h131 := zs_iret C dX5_of_131
    have h130 := zs_iadd C dX5_of_130 h131
    have h128 := zs_bipush (v := 10) C dX5_of_128 (by decide) h130
    have h125 := zs_sI C dX5_of_125 (m_X5_worseBy N) zw_623 ⟨Nat.le_of_ble_eq_true rfl, Nat.le_of_ble_eq_true rfl⟩ h128
    have h124 := zs_iload_n (i := 1) C dX5_of_124 rfl h125
    have h121 := zs_gR C dX5_of_121 zf_5_0 zw_543 h124
    have h120 := zs_aload_n (i := 0) C dX5_of_120 rfl h121
    have h117 := zs_goto (tgt := 131) C dX5_of_117 (by decide) h131
    have h115 := zs_bipush (v := 10) C dX5_of_115 (by decide) h117
    have h112 := zs_if_eq (tgt := 120) C dX5_of_112 (by decide) h120 h115
    have h109 := zs_sI C dX5_of_109 (m_X5_isParted N) zw_617 ⟨Nat.le_of_ble_eq_true rfl, Nat.le_of_ble_eq_true rfl⟩ h112
    have h108 := zs_iload_n (i := 1) C dX5_of_108 rfl h109
    have h105 := zs_gR C dX5_of_105 zf_5_0 zw_543 h108
    have h104 := zs_aload_n (i := 0) C dX5_of_104 rfl h105
    have h103 := zs_iret C dX5_of_103
    have h102 := zs_iconst (v := 0) C dX5_of_102 (by decide) h103
    have h99 := zs_goto (tgt := 103) C dX5_of_99 (by decide) h103
    have h98 := zs_iconst (v := 1) C dX5_of_98 (by decide) h99
    have h95 := zs_if_eq (tgt := 102) C dX5_of_95 (by decide) h102 h98
    have h92 := zs_sI C dX5_of_92 (m_X5_isParted N) zw_617 ⟨Nat.le_of_ble_eq_true rfl, Nat.le_of_ble_eq_true rfl⟩ h95
    have h91 := zs_iload_n (i := 1) C dX5_of_91 rfl h92
    have h88 := zs_gR C dX5_of_88 zf_5_0 zw_543 h91
    have h87 := zs_aload_n (i := 0) C dX5_of_87 rfl h88
    have h86 := zs_iret C dX5_of_86
    have h85 := zs_iald (n := 32) C dX5_of_85 (by decide) h86
    have h84 := zs_iadd C dX5_of_84 h85
    have h83 := zs_iload_n (i := 1) C dX5_of_83 rfl h84
    have h81 := zs_bipush (v := 25) C dX5_of_81 (by decide) h83
    have h78 := zs_gR C dX5_of_78 zf_5_0 zw_543 h81
    have h77 := zs_aload_n (i := 0) C dX5_of_77 rfl h78
    have h76 := zs_iret C dX5_of_76
    have h75 := zs_iald (n := 32) C dX5_of_75 (by decide) h76
    have h74 := zs_iadd C dX5_of_74 h75
    have h73 := zs_iload_n (i := 1) C dX5_of_73 rfl h74
    have h71 := zs_bipush (v := 18) C dX5_of_71 (by decide) h73
    have h68 := zs_gR C dX5_of_68 zf_5_0 zw_543 h71
    have h67 := zs_aload_n (i := 0) C dX5_of_67 rfl h68
    have h66 := zs_iret C dX5_of_66
    have h65 := zs_iald (n := 32) C dX5_of_65 (by decide) h66
    have h64 := zs_iadd C dX5_of_64 h65
    have h63 := zs_iload_n (i := 1) C dX5_of_63 rfl h64
    have h61 := zs_bipush (v := 11) C dX5_of_61 (by decide) h63
    have h58 := zs_gR C dX5_of_58 zf_5_0 zw_543 h61
    have h57 := zs_aload_n (i := 0) C dX5_of_57 rfl h58
    have h56 := zs_iret C dX5_of_56
    have h55 := zs_iald (n := 32) C dX5_of_55 (by decide) h56
    have h54 := zs_iadd C dX5_of_54 h55
    have h53 := zs_iload_n (i := 1) C dX5_of_53 rfl h54
    have h52 := zs_iconst (v := 4) C dX5_of_52 (by decide) h53
    have h49 := zs_gR C dX5_of_49 zf_5_0 zw_543 h52
    have h48 := zs_aload_n (i := 0) C dX5_of_48 rfl h49
    have h11 := zs_tab (q := zq_I) (cs := [(0, _), (1, _), (2, _), (3, _), (4, _), (5, _)]) (xs := [0, 1, 2, 3, 4, 5]) (tg := (fun x => if x = 0 then 48 else if x = 1 then 57 else if x = 2 then 67 else if x = 3 then 77 else if x = 4 then 87 else if x = 5 then 104 else 0)) (tgt := 132) C dX5_of_11 (by decide) (by decide) rfl (by decide +kernel) (by decide +kernel) (List.forall_mem_cons.mpr ⟨h48, (List.forall_mem_cons.mpr ⟨h57, (List.forall_mem_cons.mpr ⟨h67, (List.forall_mem_cons.mpr ⟨h77, (List.forall_mem_cons.mpr ⟨h87, (List.forall_mem_cons.mpr ⟨h104, (fun _ h => absurd h List.not_mem_nil)⟩)⟩)⟩)⟩)⟩)⟩) h132
    have h10 := zs_iload_n (i := 2) C dX5_of_10 rfl h11
    have h9 := zs_iret C dX5_of_9
    have h8 := zs_iconst (v := (-1)) C dX5_of_8 (by decide) h9
    have h5 := zs_if_ne (tgt := 10) C dX5_of_5 (by decide) h10 h8
    have h2 := zs_vI C dX5_of_2 (m_X5_isCouple N) zw_613 ⟨Nat.le_of_ble_eq_true rfl, Nat.le_of_ble_eq_true rfl⟩ h5
    have h1 := zs_iload_n (i := 1) C dX5_of_1 rfl h2
    have h0 := zs_aload_n (i := 0) C dX5_of_0 rfl h1
    exact h0
  case hG =>
    intro as μ r h
    obtain ⟨x0, x1, x2, rfl, h⟩ := g_X5_of_i h
    exact ⟨Nat.le_of_ble_eq_true rfl, h⟩
theorem m_X5_of (N : Nat) : zk_MV yX5_of cX5_of 3 (some .int) ({ frames := 6, cells := 0, slots := 0, locals := 132 } : Room) zq_I (g_X5_of N) 2 5 := ⟨c_X5_of N, zw_612, zw_610, zw_611, zw_31, rfl, rfl, by decide +kernel, by decide, ⟨TX5, 18, rfl⟩, fun as μ r h => by obtain ⟨x0, x1, x2, rfl, -⟩ := g_X5_of_i h; exact ⟨_, _, rfl⟩⟩
-- LongestWedModel.type(I)I
def f_X5_type (N : Nat) (x0 : Nat) (x1 : Int32) (μ : ZM) : Option (Int32 × ZM) :=
  (f_X5_in N x1 32 126 μ).bind fun r1 =>
  if ¬ r1.1 = 0 then
    if ¬ (r1.2.1 x0 10) = (80 : Int32) then
      if zk_o (r1.2.1 x0 10) 80 = true then none else
      let μ2 := zk_si r1.2 (x0 + 7) (Int32.toNatClampNeg (r1.2.1 x0 10)) (vp_nar .byte (Int8.toInt32 (Int32.toInt8 x1)))
      let μ3 := zk_si μ2 x0 10 ((μ2.1 x0 10) + 1)
      some ((μ3.1 x0 10), μ3)
    else
      some ((-3), r1.2)
  else
    some ((-1), r1.2)
def g_X5_type (N : Nat) (as : List ZV) (μ : ZM) : Option (Int32 × ZM) := match as with
  | [.inr (.inr (5, x0)), .inl x1] => f_X5_type N x0 x1 μ
  | _ => none
theorem g_X5_type_i {N : Nat} {as : List ZV} {μ : ZM} {r : Int32 × ZM} (h : g_X5_type N as μ = some r) : ∃ (x0 : Nat) (x1 : Int32), as = [.inr (.inr (5, x0)), .inl x1] ∧ f_X5_type N x0 x1 μ = some r := by
  unfold g_X5_type at h
  split at h
  · exact ⟨_, _, rfl, h⟩
  · cases h
set_option maxRecDepth 100000 in
theorem c_X5_type (N : Nat) : zk_C yX5_type cX5_type 2 (some .int) ({ frames := 1, cells := 0, slots := 0, locals := 22 } : Room) zq_I (g_X5_type N) := by
  refine zk_met ?κ (by decide +kernel) ?hG ?body
  case body =>
    intro X E C
    have C : zk_X X E RX5 cX5_type 2 (some .int) ({ frames := 1, cells := 0, slots := 0, locals := 22 } : Room) := C
    have h50 := zs_iret C dX5_type_50
    have h47 := zs_gI C dX5_type_47 zf_5_10 zw_553 h50
    have h46 := zs_aload_n (i := 0) C dX5_type_46 rfl h47
    have h43 := zs_pI C dX5_type_43 zf_5_10 zw_553 rfl (by decide +kernel) h46
    have h42 := zs_iadd C dX5_type_42 h43
    have h41 := zs_iconst (v := 1) C dX5_type_41 (by decide) h42
    have h38 := zs_gI C dX5_type_38 zf_5_10 zw_553 h41
    have h37 := zs_dup C dX5_type_37 h38
    have h36 := zs_aload_n (i := 0) C dX5_type_36 rfl h37
    have h35 := zs_bast (n := 80) C dX5_type_35 (by decide) h36
    have h34 := zs_i2b C dX5_type_34 h35
    have h33 := zs_iload_n (i := 1) C dX5_type_33 rfl h34
    have h30 := zs_gI C dX5_type_30 zf_5_10 zw_553 h33
    have h29 := zs_aload_n (i := 0) C dX5_type_29 rfl h30
    have h26 := zs_gR C dX5_type_26 zf_5_9 zw_552 h29
    have h25 := zs_aload_n (i := 0) C dX5_type_25 rfl h26
    have h24 := zs_iret C dX5_type_24
    have h22 := zs_bipush (v := (-3)) C dX5_type_22 (by decide) h24
    have h19 := zs_icmp_ne (tgt := 25) C dX5_type_19 (by decide) h25 h22
    have h17 := zs_bipush (v := 80) C dX5_type_17 (by decide) h19
    have h14 := zs_gI C dX5_type_14 zf_5_10 zw_553 h17
    have h13 := zs_aload_n (i := 0) C dX5_type_13 rfl h14
    have h12 := zs_iret C dX5_type_12
    have h11 := zs_iconst (v := (-1)) C dX5_type_11 (by decide) h12
    have h8 := zs_if_ne (tgt := 13) C dX5_type_8 (by decide) h13 h11
    have h5 := zs_sI C dX5_type_5 (m_X5_in N) zw_603 ⟨Nat.le_of_ble_eq_true rfl, Nat.le_of_ble_eq_true rfl⟩ h8
    have h3 := zs_bipush (v := 126) C dX5_type_3 (by decide) h5
    have h1 := zs_bipush (v := 32) C dX5_type_1 (by decide) h3
    have h0 := zs_iload_n (i := 1) C dX5_type_0 rfl h1
    exact h0
  case hG =>
    intro as μ r h
    obtain ⟨x0, x1, rfl, h⟩ := g_X5_type_i h
    exact ⟨Nat.le_of_ble_eq_true rfl, h⟩
theorem m_X5_type (N : Nat) : zk_MV yX5_type cX5_type 2 (some .int) ({ frames := 1, cells := 0, slots := 0, locals := 22 } : Room) zq_I (g_X5_type N) 1 5 := ⟨c_X5_type N, zw_638, zw_636, zw_637, zw_31, rfl, rfl, by decide +kernel, by decide, ⟨TX5, 18, rfl⟩, fun as μ r h => by obtain ⟨x0, x1, rfl, -⟩ := g_X5_type_i h; exact ⟨_, _, rfl⟩⟩
-- LongestWedModel.here()I
def f_X5_here_J38 (N : Nat) (x0 : Nat) (μ : ZM) : Option (Int32 × ZM) :=
  if (μ.1 x0 10) ≤ (μ.1 x0 11) then
    some ((-4), μ)
  else
    if zk_o (μ.1 x0 11) 80 = true then none else
    some ((μ.1 (x0 + 7) (Int32.toNatClampNeg (μ.1 x0 11))), μ)
def k_X5_here_J38 (N : Nat) : ZK (Int32 × ZM) := fun L st μ => match L, st with
  | [some (.inr (.inr (5, x0)))], [] => f_X5_here_J38 N x0 μ
  | _, _ => none
theorem k_X5_here_J38_i {N : Nat} {L : ZL} {st : List ZV} {μ : ZM} {r : Int32 × ZM} (h : k_X5_here_J38 N L st μ = some r) : ∃ (x0 : Nat), L = [some (.inr (.inr (5, x0)))] ∧ st = [] ∧ f_X5_here_J38 N x0 μ = some r := by
  unfold k_X5_here_J38 at h
  split at h
  · exact ⟨_, rfl, rfl, h⟩
  · cases h
set_option maxRecDepth 100000 in
theorem s_X5_here_J38 (N : Nat) {X : ZX} {E : ZE} (C : zk_X X E RX5 cX5_here 1 (some .int) ({ frames := 0, cells := 0, slots := 0, locals := 0 } : Room)) : zk_S X E 1 zq_I 38 (k_X5_here_J38 N) := by
  have h63 := zs_iret C dX5_here_63
  have h61 := zs_bipush (v := (-4)) C dX5_here_61 (by decide) h63
  have h58 := zs_goto (tgt := 63) C dX5_here_58 (by decide) h63
  have h57 := zs_bald (n := 80) C dX5_here_57 (by decide) h58
  have h54 := zs_gI C dX5_here_54 zf_5_11 zw_554 h57
  have h53 := zs_aload_n (i := 0) C dX5_here_53 rfl h54
  have h50 := zs_gR C dX5_here_50 zf_5_9 zw_552 h53
  have h49 := zs_aload_n (i := 0) C dX5_here_49 rfl h50
  have h46 := zs_icmp_ge (tgt := 61) C dX5_here_46 (by decide) h61 h49
  have h43 := zs_gI C dX5_here_43 zf_5_10 zw_553 h46
  have h42 := zs_aload_n (i := 0) C dX5_here_42 rfl h43
  have h39 := zs_gI C dX5_here_39 zf_5_11 zw_554 h42
  have h38 := zs_aload_n (i := 0) C dX5_here_38 rfl h39
  intro H locs ls L st μ r h hL hst hW hS
  obtain ⟨x0, rfl, rfl, h⟩ := k_X5_here_J38_i h
  exact h38 H locs ls [some (.inr (.inr (5, x0)))] [] μ r h (hL.less ⟨rfl, trivial⟩) hst hW hS
def f_X5_here_L0 (N : Nat) : Nat → Nat → ZM → Option (Int32 × ZM)
  | 0, _, _ => none
  | n + 1, x0, μ =>
    if (μ.1 x0 10) ≤ (μ.1 x0 11) then
      f_X5_here_J38 N x0 μ
    else
      if zk_o (μ.1 x0 11) 80 = true then none else
      if ¬ (μ.1 (x0 + 7) (Int32.toNatClampNeg (μ.1 x0 11))) = (32 : Int32) then
        f_X5_here_J38 N x0 μ
      else
        let μ1 := zk_si μ x0 11 ((μ.1 x0 11) + 1)
        f_X5_here_L0 N n x0 μ1
def k_X5_here_L0 (N n : Nat) : ZK (Int32 × ZM) := fun L st μ => match L, st with
  | [some (.inr (.inr (5, x0)))], [] => f_X5_here_L0 N n x0 μ
  | _, _ => none
theorem k_X5_here_L0_i {N : Nat} {n : Nat} {L : ZL} {st : List ZV} {μ : ZM} {r : Int32 × ZM} (h : k_X5_here_L0 N n L st μ = some r) : ∃ (x0 : Nat), L = [some (.inr (.inr (5, x0)))] ∧ st = [] ∧ f_X5_here_L0 N n x0 μ = some r := by
  unfold k_X5_here_L0 at h
  split at h
  · exact ⟨_, rfl, rfl, h⟩
  · cases h
set_option maxRecDepth 100000 in
theorem s_X5_here_L0 (N : Nat) {X : ZX} {E : ZE} (C : zk_X X E RX5 cX5_here 1 (some .int) ({ frames := 0, cells := 0, slots := 0, locals := 0 } : Room)) : ∀ n, zk_S X E 1 zq_I 0 (k_X5_here_L0 N n) := by
  intro n
  induction n with
  | zero =>
    intro H locs ls L st μ r h hL hst hW hS
    obtain ⟨x0, rfl, rfl, h⟩ := k_X5_here_L0_i h
    exact nomatch (show none = some r from h)
  | succ n ih =>
    have e38 := s_X5_here_J38 N C
    have h35 := zs_goto (tgt := 0) C dX5_here_35 (by decide) ih
    have h32 := zs_pI C dX5_here_32 zf_5_11 zw_554 rfl (by decide +kernel) h35
    have h31 := zs_iadd C dX5_here_31 h32
    have h30 := zs_iconst (v := 1) C dX5_here_30 (by decide) h31
    have h27 := zs_gI C dX5_here_27 zf_5_11 zw_554 h30
    have h26 := zs_dup C dX5_here_26 h27
    have h25 := zs_aload_n (i := 0) C dX5_here_25 rfl h26
    have h22 := zs_icmp_ne (tgt := 38) C dX5_here_22 (by decide) e38 h25
    have h20 := zs_bipush (v := 32) C dX5_here_20 (by decide) h22
    have h19 := zs_bald (n := 80) C dX5_here_19 (by decide) h20
    have h16 := zs_gI C dX5_here_16 zf_5_11 zw_554 h19
    have h15 := zs_aload_n (i := 0) C dX5_here_15 rfl h16
    have h12 := zs_gR C dX5_here_12 zf_5_9 zw_552 h15
    have h11 := zs_aload_n (i := 0) C dX5_here_11 rfl h12
    have h8 := zs_icmp_ge (tgt := 38) C dX5_here_8 (by decide) e38 h11
    have h5 := zs_gI C dX5_here_5 zf_5_10 zw_553 h8
    have h4 := zs_aload_n (i := 0) C dX5_here_4 rfl h5
    have h1 := zs_gI C dX5_here_1 zf_5_11 zw_554 h4
    have h0 := zs_aload_n (i := 0) C dX5_here_0 rfl h1
    intro H locs ls L st μ r h hL hst hW hS
    obtain ⟨x0, rfl, rfl, h⟩ := k_X5_here_L0_i h
    exact h0 H locs ls [some (.inr (.inr (5, x0)))] [] μ r h (hL.less ⟨rfl, trivial⟩) hst hW hS
def f_X5_here (N : Nat) (x0 : Nat) (μ : ZM) : Option (Int32 × ZM) :=
  f_X5_here_L0 N N x0 μ
def g_X5_here (N : Nat) (as : List ZV) (μ : ZM) : Option (Int32 × ZM) := match as with
  | [.inr (.inr (5, x0))] => f_X5_here N x0 μ
  | _ => none
theorem g_X5_here_i {N : Nat} {as : List ZV} {μ : ZM} {r : Int32 × ZM} (h : g_X5_here N as μ = some r) : ∃ (x0 : Nat), as = [.inr (.inr (5, x0))] ∧ f_X5_here N x0 μ = some r := by
  unfold g_X5_here at h
  split at h
  · exact ⟨_, rfl, h⟩
  · cases h
set_option maxRecDepth 100000 in
theorem c_X5_here (N : Nat) : zk_C yX5_here cX5_here 1 (some .int) ({ frames := 0, cells := 0, slots := 0, locals := 0 } : Room) zq_I (g_X5_here N) := by
  refine zk_met ?κ (by decide +kernel) ?hG ?body
  case body =>
    intro X E C
    have C : zk_X X E RX5 cX5_here 1 (some .int) ({ frames := 0, cells := 0, slots := 0, locals := 0 } : Room) := C
    have e0 := s_X5_here_L0 N C N
    exact e0
  case hG =>
    intro as μ r h
    obtain ⟨x0, rfl, h⟩ := g_X5_here_i h
    exact ⟨Nat.le_of_ble_eq_true rfl, h⟩
theorem m_X5_here (N : Nat) : zk_MV yX5_here cX5_here 1 (some .int) ({ frames := 0, cells := 0, slots := 0, locals := 0 } : Room) zq_I (g_X5_here N) 0 5 := ⟨c_X5_here N, zw_650, zw_649, zw_15, zw_31, rfl, rfl, by decide +kernel, by decide, ⟨TX5, 18, rfl⟩, fun as μ r h => by obtain ⟨x0, rfl, -⟩ := g_X5_here_i h; exact ⟨_, _, rfl⟩⟩
-- LongestWedModel.wrongAt(I)V
def f_X5_wrongAt (N : Nat) (x0 : Nat) (x1 : Int32) (μ : ZM) : Option (ZM) :=
  let j16 : Int32 → Option (ZM) := fun b1 =>
    let μ2 := zk_si μ x0 13 b1
    let μ3 := zk_si μ2 x0 12 1
    some μ3
  if (μ.1 x0 12) = 0 then
    j16 x1
  else
    j16 (μ.1 x0 13)
def g_X5_wrongAt (N : Nat) (as : List ZV) (μ : ZM) : Option (ZM) := match as with
  | [.inr (.inr (5, x0)), .inl x1] => f_X5_wrongAt N x0 x1 μ
  | _ => none
theorem g_X5_wrongAt_i {N : Nat} {as : List ZV} {μ : ZM} {r : ZM} (h : g_X5_wrongAt N as μ = some r) : ∃ (x0 : Nat) (x1 : Int32), as = [.inr (.inr (5, x0)), .inl x1] ∧ f_X5_wrongAt N x0 x1 μ = some r := by
  unfold g_X5_wrongAt at h
  split at h
  · exact ⟨_, _, rfl, h⟩
  · cases h
set_option maxRecDepth 100000 in
theorem c_X5_wrongAt (N : Nat) : zk_C yX5_wrongAt cX5_wrongAt 2 none ({ frames := 0, cells := 0, slots := 0, locals := 0 } : Room) zq_V (g_X5_wrongAt N) := by
  refine zk_met ?κ (by decide +kernel) ?hG ?body
  case body =>
    intro X E C
    have C : zk_X X E RX5 cX5_wrongAt 2 none ({ frames := 0, cells := 0, slots := 0, locals := 0 } : Room) := C
    have h24 := zs_vret C dX5_wrongAt_24
    have h21 := zs_pZ C dX5_wrongAt_21 zf_5_12 zw_555 rfl (by decide +kernel) h24
    have h20 := zs_iconst (v := 1) C dX5_wrongAt_20 (by decide) h21
    have h19 := zs_aload_n (i := 0) C dX5_wrongAt_19 rfl h20
    have h16 := zs_pI C dX5_wrongAt_16 zf_5_13 zw_556 rfl (by decide +kernel) h19
    have h15 := zs_iload_n (i := 1) C dX5_wrongAt_15 rfl h16
    have h12 := zs_goto (tgt := 16) C dX5_wrongAt_12 (by decide) h16
    have h9 := zs_gI C dX5_wrongAt_9 zf_5_13 zw_556 h12
    have h8 := zs_aload_n (i := 0) C dX5_wrongAt_8 rfl h9
    have h5 := zs_if_eq (tgt := 15) C dX5_wrongAt_5 (by decide) h15 h8
    have h2 := zs_gI C dX5_wrongAt_2 zf_5_12 zw_555 h5
    have h1 := zs_aload_n (i := 0) C dX5_wrongAt_1 rfl h2
    have h0 := zs_aload_n (i := 0) C dX5_wrongAt_0 rfl h1
    exact h0
  case hG =>
    intro as μ r h
    obtain ⟨x0, x1, rfl, h⟩ := g_X5_wrongAt_i h
    exact ⟨Nat.le_of_ble_eq_true rfl, h⟩
theorem m_X5_wrongAt (N : Nat) : zk_MV yX5_wrongAt cX5_wrongAt 2 none ({ frames := 0, cells := 0, slots := 0, locals := 0 } : Room) zq_V (g_X5_wrongAt N) 1 5 := ⟨c_X5_wrongAt N, zw_654, zw_653, zw_16, zw_31, rfl, rfl, by decide +kernel, by decide, ⟨TX5, 18, rfl⟩, fun as μ r h => by obtain ⟨x0, x1, rfl, -⟩ := g_X5_wrongAt_i h; exact ⟨_, _, rfl⟩⟩
-- LongestWedModel.number(II)I
def f_X5_number_J96 (N : Nat) (x0 : Nat) (x1 : Int32) (x2 : Int32) (x3 : Int32) (x4 : Int32) (x5 : Int32) (μ : ZM) : Option (Int32 × ZM) :=
  let j110 : ZM → Option (Int32 × ZM) := fun μ1 =>
    (f_X5_wrongAt N x0 x4 μ1).bind fun r2 =>
    some (x5, r2)
  if x3 = 0 then
    j110 μ
  else
    (f_X5_in N x5 x1 x2 μ).bind fun r3 =>
    if ¬ r3.1 = 0 then
      if (r3.2.1 x0 10) ≤ (r3.2.1 x0 11) then
        some (x5, r3.2)
      else
        if zk_o (r3.2.1 x0 11) 80 = true then none else
        (f_X5_in N (r3.2.1 (x0 + 7) (Int32.toNatClampNeg (r3.2.1 x0 11))) 48 57 r3.2).bind fun r4 =>
        if r4.1 = 0 then
          some (x5, r4.2)
        else
          (f_X5_wrongAt N x0 (r4.2.1 x0 11) r4.2).bind fun r5 =>
          some (x5, r5)
    else
      j110 r3.2
def k_X5_number_J96 (N : Nat) : ZK (Int32 × ZM) := fun L st μ => match L, st with
  | [some (.inr (.inr (5, x0))), some (.inl x1), some (.inl x2), some (.inl x3), some (.inl x4), some (.inl x5), _], [] => f_X5_number_J96 N x0 x1 x2 x3 x4 x5 μ
  | _, _ => none
theorem k_X5_number_J96_i {N : Nat} {L : ZL} {st : List ZV} {μ : ZM} {r : Int32 × ZM} (h : k_X5_number_J96 N L st μ = some r) : ∃ (x0 : Nat) (x1 : Int32) (x2 : Int32) (x3 : Int32) (x4 : Int32) (x5 : Int32) (u6 : Option ZV), L = [some (.inr (.inr (5, x0))), some (.inl x1), some (.inl x2), some (.inl x3), some (.inl x4), some (.inl x5), u6] ∧ st = [] ∧ f_X5_number_J96 N x0 x1 x2 x3 x4 x5 μ = some r := by
  unfold k_X5_number_J96 at h
  split at h
  · exact ⟨_, _, _, _, _, _, _, rfl, rfl, h⟩
  · cases h
set_option maxRecDepth 100000 in
theorem s_X5_number_J96 (N : Nat) {X : ZX} {E : ZE} (C : zk_X X E RX5 cX5_number 7 (some .int) ({ frames := 1, cells := 0, slots := 0, locals := 22 } : Room)) : zk_S X E 7 zq_I 96 (k_X5_number_J96 N) := by
  have h159 := zs_iret C dX5_number_159
  have h157 := zs_iload (i := 5) C dX5_number_157 h159
  have h154 := zs_vV C dX5_number_154 (m_X5_wrongAt N) zw_651 ⟨Nat.le_of_ble_eq_true rfl, Nat.le_of_ble_eq_true rfl⟩ h157
  have h151 := zs_gI C dX5_number_151 zf_5_11 zw_554 h154
  have h150 := zs_aload_n (i := 0) C dX5_number_150 rfl h151
  have h149 := zs_aload_n (i := 0) C dX5_number_149 rfl h150
  have h146 := zs_if_eq (tgt := 157) C dX5_number_146 (by decide) h157 h149
  have h143 := zs_sI C dX5_number_143 (m_X5_in N) zw_603 ⟨Nat.le_of_ble_eq_true rfl, Nat.le_of_ble_eq_true rfl⟩ h146
  have h141 := zs_bipush (v := 57) C dX5_number_141 (by decide) h143
  have h139 := zs_bipush (v := 48) C dX5_number_139 (by decide) h141
  have h138 := zs_bald (n := 80) C dX5_number_138 (by decide) h139
  have h135 := zs_gI C dX5_number_135 zf_5_11 zw_554 h138
  have h134 := zs_aload_n (i := 0) C dX5_number_134 rfl h135
  have h131 := zs_gR C dX5_number_131 zf_5_9 zw_552 h134
  have h130 := zs_aload_n (i := 0) C dX5_number_130 rfl h131
  have h127 := zs_icmp_ge (tgt := 157) C dX5_number_127 (by decide) h157 h130
  have h124 := zs_gI C dX5_number_124 zf_5_10 zw_553 h127
  have h123 := zs_aload_n (i := 0) C dX5_number_123 rfl h124
  have h120 := zs_gI C dX5_number_120 zf_5_11 zw_554 h123
  have h119 := zs_aload_n (i := 0) C dX5_number_119 rfl h120
  have h116 := zs_goto (tgt := 157) C dX5_number_116 (by decide) h157
  have h113 := zs_vV C dX5_number_113 (m_X5_wrongAt N) zw_651 ⟨Nat.le_of_ble_eq_true rfl, Nat.le_of_ble_eq_true rfl⟩ h116
  have h111 := zs_iload (i := 4) C dX5_number_111 h113
  have h110 := zs_aload_n (i := 0) C dX5_number_110 rfl h111
  have h107 := zs_if_ne (tgt := 119) C dX5_number_107 (by decide) h119 h110
  have h104 := zs_sI C dX5_number_104 (m_X5_in N) zw_603 ⟨Nat.le_of_ble_eq_true rfl, Nat.le_of_ble_eq_true rfl⟩ h107
  have h103 := zs_iload_n (i := 2) C dX5_number_103 rfl h104
  have h102 := zs_iload_n (i := 1) C dX5_number_102 rfl h103
  have h100 := zs_iload (i := 5) C dX5_number_100 h102
  have h97 := zs_if_eq (tgt := 110) C dX5_number_97 (by decide) h110 h100
  have h96 := zs_iload_n (i := 3) C dX5_number_96 rfl h97
  intro H locs ls L st μ r h hL hst hW hS
  obtain ⟨x0, x1, x2, x3, x4, x5, u6, rfl, rfl, h⟩ := k_X5_number_J96_i h
  exact h96 H locs ls [some (.inr (.inr (5, x0))), some (.inl x1), some (.inl x2), some (.inl x3), some (.inl x4), some (.inl x5), none] [] μ r h (hL.less ⟨rfl, rfl, rfl, rfl, rfl, rfl, trivial⟩) hst hW hS
def f_X5_number_L24 (N : Nat) : Nat → Nat → Int32 → Int32 → Int32 → Int32 → Int32 → Int32 → ZM → Option (Int32 × ZM)
  | 0, _, _, _, _, _, _, _, _ => none
  | n + 1, x0, x1, x2, x3, x4, x5, x6, μ =>
    if (2 : Int32) ≤ x6 then
      f_X5_number_J96 N x0 x1 x2 x3 x4 x5 μ
    else
      if (μ.1 x0 10) ≤ (μ.1 x0 11) then
        f_X5_number_J96 N x0 x1 x2 x3 x4 x5 μ
      else
        if zk_o (μ.1 x0 11) 80 = true then none else
        (f_X5_in N (μ.1 (x0 + 7) (Int32.toNatClampNeg (μ.1 x0 11))) 48 57 μ).bind fun r1 =>
        if r1.1 = 0 then
          f_X5_number_J96 N x0 x1 x2 x3 x4 x5 r1.2
        else
          if zk_o (r1.2.1 x0 11) 80 = true then none else
          let μ2 := zk_si r1.2 x0 11 ((r1.2.1 x0 11) + 1)
          f_X5_number_L24 N n x0 x1 x2 x3 x4 (((10 * x5) + (r1.2.1 (x0 + 7) (Int32.toNatClampNeg (r1.2.1 x0 11)))) - 48) (x6 + 1) μ2
def k_X5_number_L24 (N n : Nat) : ZK (Int32 × ZM) := fun L st μ => match L, st with
  | [some (.inr (.inr (5, x0))), some (.inl x1), some (.inl x2), some (.inl x3), some (.inl x4), some (.inl x5), some (.inl x6)], [] => f_X5_number_L24 N n x0 x1 x2 x3 x4 x5 x6 μ
  | _, _ => none
theorem k_X5_number_L24_i {N : Nat} {n : Nat} {L : ZL} {st : List ZV} {μ : ZM} {r : Int32 × ZM} (h : k_X5_number_L24 N n L st μ = some r) : ∃ (x0 : Nat) (x1 : Int32) (x2 : Int32) (x3 : Int32) (x4 : Int32) (x5 : Int32) (x6 : Int32), L = [some (.inr (.inr (5, x0))), some (.inl x1), some (.inl x2), some (.inl x3), some (.inl x4), some (.inl x5), some (.inl x6)] ∧ st = [] ∧ f_X5_number_L24 N n x0 x1 x2 x3 x4 x5 x6 μ = some r := by
  unfold k_X5_number_L24 at h
  split at h
  · exact ⟨_, _, _, _, _, _, _, rfl, rfl, h⟩
  · cases h
set_option maxRecDepth 100000 in
theorem s_X5_number_L24 (N : Nat) {X : ZX} {E : ZE} (C : zk_X X E RX5 cX5_number 7 (some .int) ({ frames := 1, cells := 0, slots := 0, locals := 22 } : Room)) : ∀ n, zk_S X E 7 zq_I 24 (k_X5_number_L24 N n) := by
  intro n
  induction n with
  | zero =>
    intro H locs ls L st μ r h hL hst hW hS
    obtain ⟨x0, x1, x2, x3, x4, x5, x6, rfl, rfl, h⟩ := k_X5_number_L24_i h
    exact nomatch (show none = some r from h)
  | succ n ih =>
    have e96 := s_X5_number_J96 N C
    have h93 := zs_goto (tgt := 24) C dX5_number_93 (by decide) ih
    have h90 := zs_iinc (n := 1) C dX5_number_90 (by decide) h93
    have h87 := zs_pI C dX5_number_87 zf_5_11 zw_554 rfl (by decide +kernel) h90
    have h86 := zs_iadd C dX5_number_86 h87
    have h85 := zs_iconst (v := 1) C dX5_number_85 (by decide) h86
    have h82 := zs_gI C dX5_number_82 zf_5_11 zw_554 h85
    have h81 := zs_dup C dX5_number_81 h82
    have h80 := zs_aload_n (i := 0) C dX5_number_80 rfl h81
    have h78 := zs_istore (i := 5) C dX5_number_78 h80
    have h77 := zs_isub C dX5_number_77 h78
    have h75 := zs_bipush (v := 48) C dX5_number_75 (by decide) h77
    have h74 := zs_iadd C dX5_number_74 h75
    have h73 := zs_bald (n := 80) C dX5_number_73 (by decide) h74
    have h70 := zs_gI C dX5_number_70 zf_5_11 zw_554 h73
    have h69 := zs_aload_n (i := 0) C dX5_number_69 rfl h70
    have h66 := zs_gR C dX5_number_66 zf_5_9 zw_552 h69
    have h65 := zs_aload_n (i := 0) C dX5_number_65 rfl h66
    have h64 := zs_imul C dX5_number_64 h65
    have h62 := zs_iload (i := 5) C dX5_number_62 h64
    have h60 := zs_bipush (v := 10) C dX5_number_60 (by decide) h62
    have h57 := zs_if_eq (tgt := 96) C dX5_number_57 (by decide) e96 h60
    have h54 := zs_sI C dX5_number_54 (m_X5_in N) zw_603 ⟨Nat.le_of_ble_eq_true rfl, Nat.le_of_ble_eq_true rfl⟩ h57
    have h52 := zs_bipush (v := 57) C dX5_number_52 (by decide) h54
    have h50 := zs_bipush (v := 48) C dX5_number_50 (by decide) h52
    have h49 := zs_bald (n := 80) C dX5_number_49 (by decide) h50
    have h46 := zs_gI C dX5_number_46 zf_5_11 zw_554 h49
    have h45 := zs_aload_n (i := 0) C dX5_number_45 rfl h46
    have h42 := zs_gR C dX5_number_42 zf_5_9 zw_552 h45
    have h41 := zs_aload_n (i := 0) C dX5_number_41 rfl h42
    have h38 := zs_icmp_ge (tgt := 96) C dX5_number_38 (by decide) e96 h41
    have h35 := zs_gI C dX5_number_35 zf_5_10 zw_553 h38
    have h34 := zs_aload_n (i := 0) C dX5_number_34 rfl h35
    have h31 := zs_gI C dX5_number_31 zf_5_11 zw_554 h34
    have h30 := zs_aload_n (i := 0) C dX5_number_30 rfl h31
    have h27 := zs_icmp_ge (tgt := 96) C dX5_number_27 (by decide) e96 h30
    have h26 := zs_iconst (v := 2) C dX5_number_26 (by decide) h27
    have h24 := zs_iload (i := 6) C dX5_number_24 h26
    intro H locs ls L st μ r h hL hst hW hS
    obtain ⟨x0, x1, x2, x3, x4, x5, x6, rfl, rfl, h⟩ := k_X5_number_L24_i h
    exact h24 H locs ls [some (.inr (.inr (5, x0))), some (.inl x1), some (.inl x2), some (.inl x3), some (.inl x4), some (.inl x5), some (.inl x6)] [] μ r h (hL.less ⟨rfl, rfl, rfl, rfl, rfl, rfl, rfl, trivial⟩) hst hW hS
def f_X5_number (N : Nat) (x0 : Nat) (x1 : Int32) (x2 : Int32) (μ : ZM) : Option (Int32 × ZM) :=
  (f_X5_here N x0 μ).bind fun r1 =>
  (f_X5_in N r1.1 48 57 r1.2).bind fun r2 =>
  f_X5_number_L24 N N x0 x1 x2 r2.1 (r2.2.1 x0 11) 0 0 r2.2
def g_X5_number (N : Nat) (as : List ZV) (μ : ZM) : Option (Int32 × ZM) := match as with
  | [.inr (.inr (5, x0)), .inl x1, .inl x2] => f_X5_number N x0 x1 x2 μ
  | _ => none
theorem g_X5_number_i {N : Nat} {as : List ZV} {μ : ZM} {r : Int32 × ZM} (h : g_X5_number N as μ = some r) : ∃ (x0 : Nat) (x1 : Int32) (x2 : Int32), as = [.inr (.inr (5, x0)), .inl x1, .inl x2] ∧ f_X5_number N x0 x1 x2 μ = some r := by
  unfold g_X5_number at h
  split at h
  · exact ⟨_, _, _, rfl, h⟩
  · cases h
set_option maxRecDepth 100000 in
theorem c_X5_number (N : Nat) : zk_C yX5_number cX5_number 7 (some .int) ({ frames := 1, cells := 0, slots := 0, locals := 22 } : Room) zq_I (g_X5_number N) := by
  refine zk_met ?κ (by decide +kernel) ?hG ?body
  case body =>
    intro X E C
    have C : zk_X X E RX5 cX5_number 7 (some .int) ({ frames := 1, cells := 0, slots := 0, locals := 22 } : Room) := C
    have e24 := s_X5_number_L24 N C N
    have h22 := zs_istore (i := 6) C dX5_number_22 e24
    have h21 := zs_iconst (v := 0) C dX5_number_21 (by decide) h22
    have h19 := zs_istore (i := 5) C dX5_number_19 h21
    have h18 := zs_iconst (v := 0) C dX5_number_18 (by decide) h19
    have h16 := zs_istore (i := 4) C dX5_number_16 h18
    have h13 := zs_gI C dX5_number_13 zf_5_11 zw_554 h16
    have h12 := zs_aload_n (i := 0) C dX5_number_12 rfl h13
    have h11 := zs_istore_n (i := 3) C dX5_number_11 rfl h12
    have h8 := zs_sI C dX5_number_8 (m_X5_in N) zw_603 ⟨Nat.le_of_ble_eq_true rfl, Nat.le_of_ble_eq_true rfl⟩ h11
    have h6 := zs_bipush (v := 57) C dX5_number_6 (by decide) h8
    have h4 := zs_bipush (v := 48) C dX5_number_4 (by decide) h6
    have h1 := zs_vI C dX5_number_1 (m_X5_here N) zw_647 ⟨Nat.le_of_ble_eq_true rfl, Nat.le_of_ble_eq_true rfl⟩ h4
    have h0 := zs_aload_n (i := 0) C dX5_number_0 rfl h1
    exact h0
  case hG =>
    intro as μ r h
    obtain ⟨x0, x1, x2, rfl, h⟩ := g_X5_number_i h
    exact ⟨Nat.le_of_ble_eq_true rfl, h⟩
theorem m_X5_number (N : Nat) : zk_MV yX5_number cX5_number 7 (some .int) ({ frames := 1, cells := 0, slots := 0, locals := 22 } : Room) zq_I (g_X5_number N) 2 5 := ⟨c_X5_number N, zw_658, zw_657, zw_17, zw_31, rfl, rfl, by decide +kernel, by decide, ⟨TX5, 18, rfl⟩, fun as μ r h => by obtain ⟨x0, x1, x2, rfl, -⟩ := g_X5_number_i h; exact ⟨_, _, rfl⟩⟩
-- LongestWedModel.takes(I)Z
def f_X5_takes_J13 (N : Nat) (x0 : Nat) (s0 : Int32) (μ : ZM) : Option (Int32 × ZM) :=
  let j28 : Int32 → Option (Int32 × ZM) := fun b1 =>
    let μ2 := zk_si μ x0 11 ((μ.1 x0 11) + b1)
    zk_zr s0 μ2
  if s0 = 0 then
    j28 0
  else
    j28 1
def k_X5_takes_J13 (N : Nat) : ZK (Int32 × ZM) := fun L st μ => match L, st with
  | [some (.inr (.inr (5, x0))), _, _], [.inl s0] => f_X5_takes_J13 N x0 s0 μ
  | _, _ => none
theorem k_X5_takes_J13_i {N : Nat} {L : ZL} {st : List ZV} {μ : ZM} {r : Int32 × ZM} (h : k_X5_takes_J13 N L st μ = some r) : ∃ (x0 : Nat) (s0 : Int32) (u1 : Option ZV) (u2 : Option ZV), L = [some (.inr (.inr (5, x0))), u1, u2] ∧ st = [.inl s0] ∧ f_X5_takes_J13 N x0 s0 μ = some r := by
  unfold k_X5_takes_J13 at h
  split at h
  · exact ⟨_, _, _, _, rfl, rfl, h⟩
  · cases h
set_option maxRecDepth 100000 in
theorem s_X5_takes_J13 (N : Nat) {X : ZX} {E : ZE} (C : zk_X X E RX5 cX5_takes 3 (some .boolean) ({ frames := 1, cells := 0, slots := 0, locals := 20 } : Room)) : zk_S X E 3 zq_I 13 (k_X5_takes_J13 N) := by
  have h33 := zs_zret C dX5_takes_33
  have h32 := zs_iload_n (i := 2) C dX5_takes_32 rfl h33
  have h29 := zs_pI C dX5_takes_29 zf_5_11 zw_554 rfl (by decide +kernel) h32
  have h28 := zs_iadd C dX5_takes_28 h29
  have h27 := zs_iconst (v := 0) C dX5_takes_27 (by decide) h28
  have h24 := zs_goto (tgt := 28) C dX5_takes_24 (by decide) h28
  have h23 := zs_iconst (v := 1) C dX5_takes_23 (by decide) h24
  have h20 := zs_if_eq (tgt := 27) C dX5_takes_20 (by decide) h27 h23
  have h19 := zs_iload_n (i := 2) C dX5_takes_19 rfl h20
  have h16 := zs_gI C dX5_takes_16 zf_5_11 zw_554 h19
  have h15 := zs_dup C dX5_takes_15 h16
  have h14 := zs_aload_n (i := 0) C dX5_takes_14 rfl h15
  have h13 := zs_istore_n (i := 2) C dX5_takes_13 rfl h14
  intro H locs ls L st μ r h hL hst hW hS
  obtain ⟨x0, s0, u1, u2, rfl, rfl, h⟩ := k_X5_takes_J13_i h
  exact h13 H locs ls [some (.inr (.inr (5, x0))), none, none] [.inl s0] μ r h (hL.less ⟨rfl, trivial⟩) hst hW hS
def f_X5_takes (N : Nat) (x0 : Nat) (x1 : Int32) (μ : ZM) : Option (Int32 × ZM) :=
  (f_X5_here N x0 μ).bind fun r1 =>
  if ¬ r1.1 = x1 then
    f_X5_takes_J13 N x0 0 r1.2
  else
    f_X5_takes_J13 N x0 1 r1.2
def g_X5_takes (N : Nat) (as : List ZV) (μ : ZM) : Option (Int32 × ZM) := match as with
  | [.inr (.inr (5, x0)), .inl x1] => f_X5_takes N x0 x1 μ
  | _ => none
theorem g_X5_takes_i {N : Nat} {as : List ZV} {μ : ZM} {r : Int32 × ZM} (h : g_X5_takes N as μ = some r) : ∃ (x0 : Nat) (x1 : Int32), as = [.inr (.inr (5, x0)), .inl x1] ∧ f_X5_takes N x0 x1 μ = some r := by
  unfold g_X5_takes at h
  split at h
  · exact ⟨_, _, rfl, h⟩
  · cases h
set_option maxRecDepth 100000 in
theorem c_X5_takes (N : Nat) : zk_C yX5_takes cX5_takes 3 (some .boolean) ({ frames := 1, cells := 0, slots := 0, locals := 20 } : Room) zq_I (g_X5_takes N) := by
  refine zk_met ?κ (by decide +kernel) ?hG ?body
  case body =>
    intro X E C
    have C : zk_X X E RX5 cX5_takes 3 (some .boolean) ({ frames := 1, cells := 0, slots := 0, locals := 20 } : Room) := C
    have e13 := s_X5_takes_J13 N C
    have h12 := zs_iconst (v := 0) C dX5_takes_12 (by decide) e13
    have h9 := zs_goto (tgt := 13) C dX5_takes_9 (by decide) e13
    have h8 := zs_iconst (v := 1) C dX5_takes_8 (by decide) h9
    have h5 := zs_icmp_ne (tgt := 12) C dX5_takes_5 (by decide) h12 h8
    have h4 := zs_iload_n (i := 1) C dX5_takes_4 rfl h5
    have h1 := zs_vI C dX5_takes_1 (m_X5_here N) zw_647 ⟨Nat.le_of_ble_eq_true rfl, Nat.le_of_ble_eq_true rfl⟩ h4
    have h0 := zs_aload_n (i := 0) C dX5_takes_0 rfl h1
    exact h0
  case hG =>
    intro as μ r h
    obtain ⟨x0, x1, rfl, h⟩ := g_X5_takes_i h
    exact ⟨Nat.le_of_ble_eq_true rfl, h⟩
theorem m_X5_takes (N : Nat) : zk_MV yX5_takes cX5_takes 3 (some .boolean) ({ frames := 1, cells := 0, slots := 0, locals := 20 } : Room) zq_I (g_X5_takes N) 1 5 := ⟨c_X5_takes N, zw_662, zw_661, zw_18, zw_31, rfl, rfl, by decide +kernel, by decide, ⟨TX5, 18, rfl⟩, fun as μ r h => by obtain ⟨x0, x1, rfl, -⟩ := g_X5_takes_i h; exact ⟨_, _, rfl⟩⟩
-- LongestWedModel.readCouple()V
def f_X5_readCouple_J172 (N : Nat) (x0 : Nat) (x2 : Int32) (x3 : Int32) (x4 : Int32) (x5 : Int32) (s0 : Int32) (μ : ZM) : Option (ZM) :=
  if ¬ (μ.1 x0 12) = 0 then
    some μ
  else
    (f_X5_join N (x0 + 2) x2 x3 x4 x5 s0 μ).bind fun r1 =>
    some r1
def k_X5_readCouple_J172 (N : Nat) : ZK (ZM) := fun L st μ => match L, st with
  | [some (.inr (.inr (5, x0))), _, some (.inl x2), some (.inl x3), some (.inl x4), some (.inl x5), _], [.inl s0] => f_X5_readCouple_J172 N x0 x2 x3 x4 x5 s0 μ
  | _, _ => none
theorem k_X5_readCouple_J172_i {N : Nat} {L : ZL} {st : List ZV} {μ : ZM} {r : ZM} (h : k_X5_readCouple_J172 N L st μ = some r) : ∃ (x0 : Nat) (x2 : Int32) (x3 : Int32) (x4 : Int32) (x5 : Int32) (s0 : Int32) (u1 : Option ZV) (u6 : Option ZV), L = [some (.inr (.inr (5, x0))), u1, some (.inl x2), some (.inl x3), some (.inl x4), some (.inl x5), u6] ∧ st = [.inl s0] ∧ f_X5_readCouple_J172 N x0 x2 x3 x4 x5 s0 μ = some r := by
  unfold k_X5_readCouple_J172 at h
  split at h
  · exact ⟨_, _, _, _, _, _, _, _, rfl, rfl, h⟩
  · cases h
set_option maxRecDepth 100000 in
theorem s_X5_readCouple_J172 (N : Nat) {X : ZX} {E : ZE} (C : zk_X X E RX5 cX5_readCouple 7 none ({ frames := 2, cells := 0, slots := 0, locals := 48 } : Room)) : zk_S X E 7 zq_V 172 (k_X5_readCouple_J172 N) := by
  have h196 := zs_vret C dX5_readCouple_196
  have h193 := zs_sV C dX5_readCouple_193 (m_X5_join N) zw_606 ⟨Nat.le_of_ble_eq_true rfl, Nat.le_of_ble_eq_true rfl⟩ h196
  have h191 := zs_iload (i := 6) C dX5_readCouple_191 h193
  have h189 := zs_iload (i := 5) C dX5_readCouple_189 h191
  have h187 := zs_iload (i := 4) C dX5_readCouple_187 h189
  have h186 := zs_iload_n (i := 3) C dX5_readCouple_186 rfl h187
  have h185 := zs_iload_n (i := 2) C dX5_readCouple_185 rfl h186
  have h182 := zs_gR C dX5_readCouple_182 zf_5_1 zw_544 h185
  have h181 := zs_aload_n (i := 0) C dX5_readCouple_181 rfl h182
  have h178 := zs_if_ne (tgt := 196) C dX5_readCouple_178 (by decide) h196 h181
  have h175 := zs_gI C dX5_readCouple_175 zf_5_12 zw_555 h178
  have h174 := zs_aload_n (i := 0) C dX5_readCouple_174 rfl h175
  have h172 := zs_istore (i := 6) C dX5_readCouple_172 h174
  intro H locs ls L st μ r h hL hst hW hS
  obtain ⟨x0, x2, x3, x4, x5, s0, u1, u6, rfl, rfl, h⟩ := k_X5_readCouple_J172_i h
  exact h172 H locs ls [some (.inr (.inr (5, x0))), none, some (.inl x2), some (.inl x3), some (.inl x4), some (.inl x5), none] [.inl s0] μ r h (hL.less ⟨rfl, rfl, rfl, rfl, rfl, trivial⟩) hst hW hS
def f_X5_readCouple_J171 (N : Nat) (x0 : Nat) (x2 : Int32) (x3 : Int32) (x4 : Int32) (x5 : Int32) (μ : ZM) : Option (ZM) :=
  f_X5_readCouple_J172 N x0 x2 x3 x4 x5 0 μ
def k_X5_readCouple_J171 (N : Nat) : ZK (ZM) := fun L st μ => match L, st with
  | [some (.inr (.inr (5, x0))), _, some (.inl x2), some (.inl x3), some (.inl x4), some (.inl x5), _], [] => f_X5_readCouple_J171 N x0 x2 x3 x4 x5 μ
  | _, _ => none
theorem k_X5_readCouple_J171_i {N : Nat} {L : ZL} {st : List ZV} {μ : ZM} {r : ZM} (h : k_X5_readCouple_J171 N L st μ = some r) : ∃ (x0 : Nat) (x2 : Int32) (x3 : Int32) (x4 : Int32) (x5 : Int32) (u1 : Option ZV) (u6 : Option ZV), L = [some (.inr (.inr (5, x0))), u1, some (.inl x2), some (.inl x3), some (.inl x4), some (.inl x5), u6] ∧ st = [] ∧ f_X5_readCouple_J171 N x0 x2 x3 x4 x5 μ = some r := by
  unfold k_X5_readCouple_J171 at h
  split at h
  · exact ⟨_, _, _, _, _, _, _, rfl, rfl, h⟩
  · cases h
set_option maxRecDepth 100000 in
theorem s_X5_readCouple_J171 (N : Nat) {X : ZX} {E : ZE} (C : zk_X X E RX5 cX5_readCouple 7 none ({ frames := 2, cells := 0, slots := 0, locals := 48 } : Room)) : zk_S X E 7 zq_V 171 (k_X5_readCouple_J171 N) := by
  have e172 := s_X5_readCouple_J172 N C
  have h171 := zs_iconst (v := 0) C dX5_readCouple_171 (by decide) e172
  intro H locs ls L st μ r h hL hst hW hS
  obtain ⟨x0, x2, x3, x4, x5, u1, u6, rfl, rfl, h⟩ := k_X5_readCouple_J171_i h
  exact h171 H locs ls [some (.inr (.inr (5, x0))), none, some (.inl x2), some (.inl x3), some (.inl x4), some (.inl x5), none] [] μ r h (hL.less ⟨rfl, rfl, rfl, rfl, rfl, trivial⟩) hst hW hS
def f_X5_readCouple_J149 (N : Nat) (x0 : Nat) (x2 : Int32) (x3 : Int32) (x4 : Int32) (s0 : Int32) (μ : ZM) : Option (ZM) :=
  if ¬ (μ.1 x0 12) = 0 then
    f_X5_readCouple_J171 N x0 x2 x3 x4 s0 μ
  else
    (f_X5_takes N x0 120 μ).bind fun r1 =>
    if r1.1 = 0 then
      f_X5_readCouple_J171 N x0 x2 x3 x4 s0 r1.2
    else
      f_X5_readCouple_J172 N x0 x2 x3 x4 s0 1 r1.2
def k_X5_readCouple_J149 (N : Nat) : ZK (ZM) := fun L st μ => match L, st with
  | [some (.inr (.inr (5, x0))), _, some (.inl x2), some (.inl x3), some (.inl x4), _, _], [.inl s0] => f_X5_readCouple_J149 N x0 x2 x3 x4 s0 μ
  | _, _ => none
theorem k_X5_readCouple_J149_i {N : Nat} {L : ZL} {st : List ZV} {μ : ZM} {r : ZM} (h : k_X5_readCouple_J149 N L st μ = some r) : ∃ (x0 : Nat) (x2 : Int32) (x3 : Int32) (x4 : Int32) (s0 : Int32) (u1 : Option ZV) (u5 : Option ZV) (u6 : Option ZV), L = [some (.inr (.inr (5, x0))), u1, some (.inl x2), some (.inl x3), some (.inl x4), u5, u6] ∧ st = [.inl s0] ∧ f_X5_readCouple_J149 N x0 x2 x3 x4 s0 μ = some r := by
  unfold k_X5_readCouple_J149 at h
  split at h
  · exact ⟨_, _, _, _, _, _, _, _, rfl, rfl, h⟩
  · cases h
set_option maxRecDepth 100000 in
theorem s_X5_readCouple_J149 (N : Nat) {X : ZX} {E : ZE} (C : zk_X X E RX5 cX5_readCouple 7 none ({ frames := 2, cells := 0, slots := 0, locals := 48 } : Room)) : zk_S X E 7 zq_V 149 (k_X5_readCouple_J149 N) := by
  have e171 := s_X5_readCouple_J171 N C
  have e172 := s_X5_readCouple_J172 N C
  have h168 := zs_goto (tgt := 172) C dX5_readCouple_168 (by decide) e172
  have h167 := zs_iconst (v := 1) C dX5_readCouple_167 (by decide) h168
  have h164 := zs_if_eq (tgt := 171) C dX5_readCouple_164 (by decide) e171 h167
  have h161 := zs_vI C dX5_readCouple_161 (m_X5_takes N) zw_659 ⟨Nat.le_of_ble_eq_true rfl, Nat.le_of_ble_eq_true rfl⟩ h164
  have h159 := zs_bipush (v := 120) C dX5_readCouple_159 (by decide) h161
  have h158 := zs_aload_n (i := 0) C dX5_readCouple_158 rfl h159
  have h155 := zs_if_ne (tgt := 171) C dX5_readCouple_155 (by decide) e171 h158
  have h152 := zs_gI C dX5_readCouple_152 zf_5_12 zw_555 h155
  have h151 := zs_aload_n (i := 0) C dX5_readCouple_151 rfl h152
  have h149 := zs_istore (i := 5) C dX5_readCouple_149 h151
  intro H locs ls L st μ r h hL hst hW hS
  obtain ⟨x0, x2, x3, x4, s0, u1, u5, u6, rfl, rfl, h⟩ := k_X5_readCouple_J149_i h
  exact h149 H locs ls [some (.inr (.inr (5, x0))), none, some (.inl x2), some (.inl x3), some (.inl x4), none, none] [.inl s0] μ r h (hL.less ⟨rfl, rfl, rfl, rfl, trivial⟩) hst hW hS
def f_X5_readCouple_J148 (N : Nat) (x0 : Nat) (x2 : Int32) (x3 : Int32) (x4 : Int32) (μ : ZM) : Option (ZM) :=
  f_X5_readCouple_J149 N x0 x2 x3 x4 0 μ
def k_X5_readCouple_J148 (N : Nat) : ZK (ZM) := fun L st μ => match L, st with
  | [some (.inr (.inr (5, x0))), _, some (.inl x2), some (.inl x3), some (.inl x4), _, _], [] => f_X5_readCouple_J148 N x0 x2 x3 x4 μ
  | _, _ => none
theorem k_X5_readCouple_J148_i {N : Nat} {L : ZL} {st : List ZV} {μ : ZM} {r : ZM} (h : k_X5_readCouple_J148 N L st μ = some r) : ∃ (x0 : Nat) (x2 : Int32) (x3 : Int32) (x4 : Int32) (u1 : Option ZV) (u5 : Option ZV) (u6 : Option ZV), L = [some (.inr (.inr (5, x0))), u1, some (.inl x2), some (.inl x3), some (.inl x4), u5, u6] ∧ st = [] ∧ f_X5_readCouple_J148 N x0 x2 x3 x4 μ = some r := by
  unfold k_X5_readCouple_J148 at h
  split at h
  · exact ⟨_, _, _, _, _, _, _, rfl, rfl, h⟩
  · cases h
set_option maxRecDepth 100000 in
theorem s_X5_readCouple_J148 (N : Nat) {X : ZX} {E : ZE} (C : zk_X X E RX5 cX5_readCouple 7 none ({ frames := 2, cells := 0, slots := 0, locals := 48 } : Room)) : zk_S X E 7 zq_V 148 (k_X5_readCouple_J148 N) := by
  have e149 := s_X5_readCouple_J149 N C
  have h148 := zs_iconst (v := 0) C dX5_readCouple_148 (by decide) e149
  intro H locs ls L st μ r h hL hst hW hS
  obtain ⟨x0, x2, x3, x4, u1, u5, u6, rfl, rfl, h⟩ := k_X5_readCouple_J148_i h
  exact h148 H locs ls [some (.inr (.inr (5, x0))), none, some (.inl x2), some (.inl x3), some (.inl x4), none, none] [] μ r h (hL.less ⟨rfl, rfl, rfl, rfl, trivial⟩) hst hW hS
def f_X5_readCouple_J120 (N : Nat) (x0 : Nat) (x2 : Int32) (x3 : Int32) (s0 : Int32) (μ : ZM) : Option (ZM) :=
  if ¬ (μ.1 x0 12) = 0 then
    f_X5_readCouple_J148 N x0 x2 x3 s0 μ
  else
    (f_X5_takes N x0 126 μ).bind fun r1 =>
    if r1.1 = 0 then
      f_X5_readCouple_J148 N x0 x2 x3 s0 r1.2
    else
      (f_X5_number N x0 0 19 r1.2).bind fun r2 =>
      f_X5_readCouple_J149 N x0 x2 x3 s0 r2.1 r2.2
def k_X5_readCouple_J120 (N : Nat) : ZK (ZM) := fun L st μ => match L, st with
  | [some (.inr (.inr (5, x0))), _, some (.inl x2), some (.inl x3), _, _, _], [.inl s0] => f_X5_readCouple_J120 N x0 x2 x3 s0 μ
  | _, _ => none
theorem k_X5_readCouple_J120_i {N : Nat} {L : ZL} {st : List ZV} {μ : ZM} {r : ZM} (h : k_X5_readCouple_J120 N L st μ = some r) : ∃ (x0 : Nat) (x2 : Int32) (x3 : Int32) (s0 : Int32) (u1 : Option ZV) (u4 : Option ZV) (u5 : Option ZV) (u6 : Option ZV), L = [some (.inr (.inr (5, x0))), u1, some (.inl x2), some (.inl x3), u4, u5, u6] ∧ st = [.inl s0] ∧ f_X5_readCouple_J120 N x0 x2 x3 s0 μ = some r := by
  unfold k_X5_readCouple_J120 at h
  split at h
  · exact ⟨_, _, _, _, _, _, _, _, rfl, rfl, h⟩
  · cases h
set_option maxRecDepth 100000 in
theorem s_X5_readCouple_J120 (N : Nat) {X : ZX} {E : ZE} (C : zk_X X E RX5 cX5_readCouple 7 none ({ frames := 2, cells := 0, slots := 0, locals := 48 } : Room)) : zk_S X E 7 zq_V 120 (k_X5_readCouple_J120 N) := by
  have e148 := s_X5_readCouple_J148 N C
  have e149 := s_X5_readCouple_J149 N C
  have h145 := zs_goto (tgt := 149) C dX5_readCouple_145 (by decide) e149
  have h142 := zs_vI C dX5_readCouple_142 (m_X5_number N) zw_655 ⟨Nat.le_of_ble_eq_true rfl, Nat.le_of_ble_eq_true rfl⟩ h145
  have h140 := zs_bipush (v := 19) C dX5_readCouple_140 (by decide) h142
  have h139 := zs_iconst (v := 0) C dX5_readCouple_139 (by decide) h140
  have h138 := zs_aload_n (i := 0) C dX5_readCouple_138 rfl h139
  have h135 := zs_if_eq (tgt := 148) C dX5_readCouple_135 (by decide) e148 h138
  have h132 := zs_vI C dX5_readCouple_132 (m_X5_takes N) zw_659 ⟨Nat.le_of_ble_eq_true rfl, Nat.le_of_ble_eq_true rfl⟩ h135
  have h130 := zs_bipush (v := 126) C dX5_readCouple_130 (by decide) h132
  have h129 := zs_aload_n (i := 0) C dX5_readCouple_129 rfl h130
  have h126 := zs_if_ne (tgt := 148) C dX5_readCouple_126 (by decide) e148 h129
  have h123 := zs_gI C dX5_readCouple_123 zf_5_12 zw_555 h126
  have h122 := zs_aload_n (i := 0) C dX5_readCouple_122 rfl h123
  have h120 := zs_istore (i := 4) C dX5_readCouple_120 h122
  intro H locs ls L st μ r h hL hst hW hS
  obtain ⟨x0, x2, x3, s0, u1, u4, u5, u6, rfl, rfl, h⟩ := k_X5_readCouple_J120_i h
  exact h120 H locs ls [some (.inr (.inr (5, x0))), none, some (.inl x2), some (.inl x3), none, none, none] [.inl s0] μ r h (hL.less ⟨rfl, rfl, rfl, trivial⟩) hst hW hS
def f_X5_readCouple_J118 (N : Nat) (x0 : Nat) (x2 : Int32) (x3 : Int32) (μ : ZM) : Option (ZM) :=
  f_X5_readCouple_J120 N x0 x2 x3 40 μ
def k_X5_readCouple_J118 (N : Nat) : ZK (ZM) := fun L st μ => match L, st with
  | [some (.inr (.inr (5, x0))), _, some (.inl x2), some (.inl x3), _, _, _], [] => f_X5_readCouple_J118 N x0 x2 x3 μ
  | _, _ => none
theorem k_X5_readCouple_J118_i {N : Nat} {L : ZL} {st : List ZV} {μ : ZM} {r : ZM} (h : k_X5_readCouple_J118 N L st μ = some r) : ∃ (x0 : Nat) (x2 : Int32) (x3 : Int32) (u1 : Option ZV) (u4 : Option ZV) (u5 : Option ZV) (u6 : Option ZV), L = [some (.inr (.inr (5, x0))), u1, some (.inl x2), some (.inl x3), u4, u5, u6] ∧ st = [] ∧ f_X5_readCouple_J118 N x0 x2 x3 μ = some r := by
  unfold k_X5_readCouple_J118 at h
  split at h
  · exact ⟨_, _, _, _, _, _, _, rfl, rfl, h⟩
  · cases h
set_option maxRecDepth 100000 in
theorem s_X5_readCouple_J118 (N : Nat) {X : ZX} {E : ZE} (C : zk_X X E RX5 cX5_readCouple 7 none ({ frames := 2, cells := 0, slots := 0, locals := 48 } : Room)) : zk_S X E 7 zq_V 118 (k_X5_readCouple_J118 N) := by
  have e120 := s_X5_readCouple_J120 N C
  have h118 := zs_bipush (v := 40) C dX5_readCouple_118 (by decide) e120
  intro H locs ls L st μ r h hL hst hW hS
  obtain ⟨x0, x2, x3, u1, u4, u5, u6, rfl, rfl, h⟩ := k_X5_readCouple_J118_i h
  exact h118 H locs ls [some (.inr (.inr (5, x0))), none, some (.inl x2), some (.inl x3), none, none, none] [] μ r h (hL.less ⟨rfl, rfl, rfl, trivial⟩) hst hW hS
def f_X5_readCouple_J57 (N : Nat) (x0 : Nat) (s0 : Int32) (μ : ZM) : Option (ZM) :=
  if ¬ s0 = (-4 : Int32) then
    let μ1 := zk_si μ x0 11 ((μ.1 x0 11) + 1)
    (f_X5_number N x0 0 80 μ1).bind fun r2 =>
    if ¬ (r2.2.1 x0 12) = 0 then
      f_X5_readCouple_J118 N x0 s0 r2.1 r2.2
    else
      (f_X5_takes N x0 64 r2.2).bind fun r3 =>
      if r3.1 = 0 then
        f_X5_readCouple_J118 N x0 s0 r2.1 r3.2
      else
        (f_X5_number N x0 20 99 r3.2).bind fun r4 =>
        f_X5_readCouple_J120 N x0 s0 r2.1 r4.1 r4.2
  else
    (f_X5_wrongAt N x0 (μ.1 x0 11) μ).bind fun r5 =>
    some r5
def k_X5_readCouple_J57 (N : Nat) : ZK (ZM) := fun L st μ => match L, st with
  | [some (.inr (.inr (5, x0))), _, _, _, _, _, _], [.inl s0] => f_X5_readCouple_J57 N x0 s0 μ
  | _, _ => none
theorem k_X5_readCouple_J57_i {N : Nat} {L : ZL} {st : List ZV} {μ : ZM} {r : ZM} (h : k_X5_readCouple_J57 N L st μ = some r) : ∃ (x0 : Nat) (s0 : Int32) (u1 : Option ZV) (u2 : Option ZV) (u3 : Option ZV) (u4 : Option ZV) (u5 : Option ZV) (u6 : Option ZV), L = [some (.inr (.inr (5, x0))), u1, u2, u3, u4, u5, u6] ∧ st = [.inl s0] ∧ f_X5_readCouple_J57 N x0 s0 μ = some r := by
  unfold k_X5_readCouple_J57 at h
  split at h
  · exact ⟨_, _, _, _, _, _, _, _, rfl, rfl, h⟩
  · cases h
set_option maxRecDepth 100000 in
theorem s_X5_readCouple_J57 (N : Nat) {X : ZX} {E : ZE} (C : zk_X X E RX5 cX5_readCouple 7 none ({ frames := 2, cells := 0, slots := 0, locals := 48 } : Room)) : zk_S X E 7 zq_V 57 (k_X5_readCouple_J57 N) := by
  have e118 := s_X5_readCouple_J118 N C
  have e120 := s_X5_readCouple_J120 N C
  have h115 := zs_goto (tgt := 120) C dX5_readCouple_115 (by decide) e120
  have h112 := zs_vI C dX5_readCouple_112 (m_X5_number N) zw_655 ⟨Nat.le_of_ble_eq_true rfl, Nat.le_of_ble_eq_true rfl⟩ h115
  have h110 := zs_bipush (v := 99) C dX5_readCouple_110 (by decide) h112
  have h108 := zs_bipush (v := 20) C dX5_readCouple_108 (by decide) h110
  have h107 := zs_aload_n (i := 0) C dX5_readCouple_107 rfl h108
  have h104 := zs_if_eq (tgt := 118) C dX5_readCouple_104 (by decide) e118 h107
  have h101 := zs_vI C dX5_readCouple_101 (m_X5_takes N) zw_659 ⟨Nat.le_of_ble_eq_true rfl, Nat.le_of_ble_eq_true rfl⟩ h104
  have h99 := zs_bipush (v := 64) C dX5_readCouple_99 (by decide) h101
  have h98 := zs_aload_n (i := 0) C dX5_readCouple_98 rfl h99
  have h95 := zs_if_ne (tgt := 118) C dX5_readCouple_95 (by decide) e118 h98
  have h92 := zs_gI C dX5_readCouple_92 zf_5_12 zw_555 h95
  have h91 := zs_aload_n (i := 0) C dX5_readCouple_91 rfl h92
  have h90 := zs_istore_n (i := 3) C dX5_readCouple_90 rfl h91
  have h87 := zs_vI C dX5_readCouple_87 (m_X5_number N) zw_655 ⟨Nat.le_of_ble_eq_true rfl, Nat.le_of_ble_eq_true rfl⟩ h90
  have h85 := zs_bipush (v := 80) C dX5_readCouple_85 (by decide) h87
  have h84 := zs_iconst (v := 0) C dX5_readCouple_84 (by decide) h85
  have h83 := zs_aload_n (i := 0) C dX5_readCouple_83 rfl h84
  have h80 := zs_pI C dX5_readCouple_80 zf_5_11 zw_554 rfl (by decide +kernel) h83
  have h79 := zs_iadd C dX5_readCouple_79 h80
  have h78 := zs_iconst (v := 1) C dX5_readCouple_78 (by decide) h79
  have h75 := zs_gI C dX5_readCouple_75 zf_5_11 zw_554 h78
  have h74 := zs_dup C dX5_readCouple_74 h75
  have h73 := zs_aload_n (i := 0) C dX5_readCouple_73 rfl h74
  have h72 := zs_vret C dX5_readCouple_72
  have h69 := zs_vV C dX5_readCouple_69 (m_X5_wrongAt N) zw_651 ⟨Nat.le_of_ble_eq_true rfl, Nat.le_of_ble_eq_true rfl⟩ h72
  have h66 := zs_gI C dX5_readCouple_66 zf_5_11 zw_554 h69
  have h65 := zs_aload_n (i := 0) C dX5_readCouple_65 rfl h66
  have h64 := zs_aload_n (i := 0) C dX5_readCouple_64 rfl h65
  have h61 := zs_icmp_ne (tgt := 73) C dX5_readCouple_61 (by decide) h73 h64
  have h59 := zs_bipush (v := (-4)) C dX5_readCouple_59 (by decide) h61
  have h58 := zs_iload_n (i := 2) C dX5_readCouple_58 rfl h59
  have h57 := zs_istore_n (i := 2) C dX5_readCouple_57 rfl h58
  intro H locs ls L st μ r h hL hst hW hS
  obtain ⟨x0, s0, u1, u2, u3, u4, u5, u6, rfl, rfl, h⟩ := k_X5_readCouple_J57_i h
  exact h57 H locs ls [some (.inr (.inr (5, x0))), none, none, none, none, none, none] [.inl s0] μ r h (hL.less ⟨rfl, trivial⟩) hst hW hS
def f_X5_readCouple (N : Nat) (x0 : Nat) (μ : ZM) : Option (ZM) :=
  (f_X5_here N x0 μ).bind fun r1 =>
  if ¬ r1.1 = (112 : Int32) then
    if ¬ r1.1 = (100 : Int32) then
      if ¬ r1.1 = (115 : Int32) then
        if ¬ r1.1 = (108 : Int32) then
          if ¬ r1.1 = (98 : Int32) then
            f_X5_readCouple_J57 N x0 (-4) r1.2
          else
            f_X5_readCouple_J57 N x0 4 r1.2
        else
          f_X5_readCouple_J57 N x0 3 r1.2
      else
        f_X5_readCouple_J57 N x0 2 r1.2
    else
      f_X5_readCouple_J57 N x0 1 r1.2
  else
    f_X5_readCouple_J57 N x0 0 r1.2
def g_X5_readCouple (N : Nat) (as : List ZV) (μ : ZM) : Option (ZM) := match as with
  | [.inr (.inr (5, x0))] => f_X5_readCouple N x0 μ
  | _ => none
theorem g_X5_readCouple_i {N : Nat} {as : List ZV} {μ : ZM} {r : ZM} (h : g_X5_readCouple N as μ = some r) : ∃ (x0 : Nat), as = [.inr (.inr (5, x0))] ∧ f_X5_readCouple N x0 μ = some r := by
  unfold g_X5_readCouple at h
  split at h
  · exact ⟨_, rfl, h⟩
  · cases h
set_option maxRecDepth 100000 in
theorem c_X5_readCouple (N : Nat) : zk_C yX5_readCouple cX5_readCouple 7 none ({ frames := 2, cells := 0, slots := 0, locals := 48 } : Room) zq_V (g_X5_readCouple N) := by
  refine zk_met ?κ (by decide +kernel) ?hG ?body
  case body =>
    intro X E C
    have C : zk_X X E RX5 cX5_readCouple 7 none ({ frames := 2, cells := 0, slots := 0, locals := 48 } : Room) := C
    have e57 := s_X5_readCouple_J57 N C
    have h55 := zs_bipush (v := (-4)) C dX5_readCouple_55 (by decide) e57
    have h52 := zs_goto (tgt := 57) C dX5_readCouple_52 (by decide) e57
    have h51 := zs_iconst (v := 4) C dX5_readCouple_51 (by decide) h52
    have h48 := zs_icmp_ne (tgt := 55) C dX5_readCouple_48 (by decide) h55 h51
    have h46 := zs_bipush (v := 98) C dX5_readCouple_46 (by decide) h48
    have h45 := zs_iload_n (i := 1) C dX5_readCouple_45 rfl h46
    have h42 := zs_goto (tgt := 57) C dX5_readCouple_42 (by decide) e57
    have h41 := zs_iconst (v := 3) C dX5_readCouple_41 (by decide) h42
    have h38 := zs_icmp_ne (tgt := 45) C dX5_readCouple_38 (by decide) h45 h41
    have h36 := zs_bipush (v := 108) C dX5_readCouple_36 (by decide) h38
    have h35 := zs_iload_n (i := 1) C dX5_readCouple_35 rfl h36
    have h32 := zs_goto (tgt := 57) C dX5_readCouple_32 (by decide) e57
    have h31 := zs_iconst (v := 2) C dX5_readCouple_31 (by decide) h32
    have h28 := zs_icmp_ne (tgt := 35) C dX5_readCouple_28 (by decide) h35 h31
    have h26 := zs_bipush (v := 115) C dX5_readCouple_26 (by decide) h28
    have h25 := zs_iload_n (i := 1) C dX5_readCouple_25 rfl h26
    have h22 := zs_goto (tgt := 57) C dX5_readCouple_22 (by decide) e57
    have h21 := zs_iconst (v := 1) C dX5_readCouple_21 (by decide) h22
    have h18 := zs_icmp_ne (tgt := 25) C dX5_readCouple_18 (by decide) h25 h21
    have h16 := zs_bipush (v := 100) C dX5_readCouple_16 (by decide) h18
    have h15 := zs_iload_n (i := 1) C dX5_readCouple_15 rfl h16
    have h12 := zs_goto (tgt := 57) C dX5_readCouple_12 (by decide) e57
    have h11 := zs_iconst (v := 0) C dX5_readCouple_11 (by decide) h12
    have h8 := zs_icmp_ne (tgt := 15) C dX5_readCouple_8 (by decide) h15 h11
    have h6 := zs_bipush (v := 112) C dX5_readCouple_6 (by decide) h8
    have h5 := zs_iload_n (i := 1) C dX5_readCouple_5 rfl h6
    have h4 := zs_istore_n (i := 1) C dX5_readCouple_4 rfl h5
    have h1 := zs_vI C dX5_readCouple_1 (m_X5_here N) zw_647 ⟨Nat.le_of_ble_eq_true rfl, Nat.le_of_ble_eq_true rfl⟩ h4
    have h0 := zs_aload_n (i := 0) C dX5_readCouple_0 rfl h1
    exact h0
  case hG =>
    intro as μ r h
    obtain ⟨x0, rfl, h⟩ := g_X5_readCouple_i h
    exact ⟨Nat.le_of_ble_eq_true rfl, h⟩
theorem m_X5_readCouple (N : Nat) : zk_MV yX5_readCouple cX5_readCouple 7 none ({ frames := 2, cells := 0, slots := 0, locals := 48 } : Room) zq_V (g_X5_readCouple N) 0 5 := ⟨c_X5_readCouple N, zw_646, zw_645, zw_14, zw_31, rfl, rfl, by decide +kernel, by decide, ⟨TX5, 18, rfl⟩, fun as μ r h => by obtain ⟨x0, rfl, -⟩ := g_X5_readCouple_i h; exact ⟨_, _, rfl⟩⟩
-- LongestWedModel.town()I
def f_X5_town_L123 (N : Nat) : Nat → Nat → Int32 → ZM → Option (Int32 × ZM)
  | 0, _, _, _ => none
  | n + 1, x0, x1, μ =>
    if (32 : Int32) ≤ x1 then
      let μ1 := zk_si μ x0 3 0
      some ((μ1.1 (x0 + 1) 0), μ1)
    else
      if zk_o x1 32 = true then none else
      if zk_o x1 32 = true then none else
      let μ2 := zk_si μ (x0 + 1) (Int32.toNatClampNeg x1) (μ.1 (x0 + 2) (Int32.toNatClampNeg x1))
      f_X5_town_L123 N n x0 (x1 + 1) μ2
def k_X5_town_L123 (N n : Nat) : ZK (Int32 × ZM) := fun L st μ => match L, st with
  | [some (.inr (.inr (5, x0))), some (.inl x1)], [] => f_X5_town_L123 N n x0 x1 μ
  | _, _ => none
theorem k_X5_town_L123_i {N : Nat} {n : Nat} {L : ZL} {st : List ZV} {μ : ZM} {r : Int32 × ZM} (h : k_X5_town_L123 N n L st μ = some r) : ∃ (x0 : Nat) (x1 : Int32), L = [some (.inr (.inr (5, x0))), some (.inl x1)] ∧ st = [] ∧ f_X5_town_L123 N n x0 x1 μ = some r := by
  unfold k_X5_town_L123 at h
  split at h
  · exact ⟨_, _, rfl, rfl, h⟩
  · cases h
set_option maxRecDepth 100000 in
theorem s_X5_town_L123 (N : Nat) {X : ZX} {E : ZE} (C : zk_X X E RX5 cX5_town 2 (some .int) ({ frames := 3, cells := 0, slots := 0, locals := 74 } : Room)) : ∀ n, zk_S X E 2 zq_I 123 (k_X5_town_L123 N n) := by
  intro n
  induction n with
  | zero =>
    intro H locs ls L st μ r h hL hst hW hS
    obtain ⟨x0, x1, rfl, rfl, h⟩ := k_X5_town_L123_i h
    exact nomatch (show none = some r from h)
  | succ n ih =>
    have h158 := zs_iret C dX5_town_158
    have h157 := zs_iald (n := 32) C dX5_town_157 (by decide) h158
    have h156 := zs_iconst (v := 0) C dX5_town_156 (by decide) h157
    have h153 := zs_gR C dX5_town_153 zf_5_0 zw_543 h156
    have h152 := zs_aload_n (i := 0) C dX5_town_152 rfl h153
    have h149 := zs_pI C dX5_town_149 zf_5_3 zw_546 rfl (by decide +kernel) h152
    have h148 := zs_iconst (v := 0) C dX5_town_148 (by decide) h149
    have h147 := zs_aload_n (i := 0) C dX5_town_147 rfl h148
    have h144 := zs_goto (tgt := 123) C dX5_town_144 (by decide) ih
    have h141 := zs_iinc (n := 1) C dX5_town_141 (by decide) h144
    have h140 := zs_iast (n := 32) C dX5_town_140 (by decide) h141
    have h139 := zs_iald (n := 32) C dX5_town_139 (by decide) h140
    have h138 := zs_iload_n (i := 1) C dX5_town_138 rfl h139
    have h135 := zs_gR C dX5_town_135 zf_5_1 zw_544 h138
    have h134 := zs_aload_n (i := 0) C dX5_town_134 rfl h135
    have h133 := zs_iload_n (i := 1) C dX5_town_133 rfl h134
    have h130 := zs_gR C dX5_town_130 zf_5_0 zw_543 h133
    have h129 := zs_aload_n (i := 0) C dX5_town_129 rfl h130
    have h126 := zs_icmp_ge (tgt := 147) C dX5_town_126 (by decide) h147 h129
    have h124 := zs_bipush (v := 32) C dX5_town_124 (by decide) h126
    have h123 := zs_iload_n (i := 1) C dX5_town_123 rfl h124
    intro H locs ls L st μ r h hL hst hW hS
    obtain ⟨x0, x1, rfl, rfl, h⟩ := k_X5_town_L123_i h
    exact h123 H locs ls [some (.inr (.inr (5, x0))), some (.inl x1)] [] μ r h (hL.less ⟨rfl, rfl, trivial⟩) hst hW hS
def f_X5_town_J101 (N : Nat) (x0 : Nat) (μ : ZM) : Option (Int32 × ZM) :=
  let μ1 := zk_si μ x0 10 0
  if (μ1.1 x0 12) = 0 then
    f_X5_town_L123 N N x0 0 μ1
  else
    some (((-20) - (μ1.1 x0 13)), μ1)
def k_X5_town_J101 (N : Nat) : ZK (Int32 × ZM) := fun L st μ => match L, st with
  | [some (.inr (.inr (5, x0))), _], [] => f_X5_town_J101 N x0 μ
  | _, _ => none
theorem k_X5_town_J101_i {N : Nat} {L : ZL} {st : List ZV} {μ : ZM} {r : Int32 × ZM} (h : k_X5_town_J101 N L st μ = some r) : ∃ (x0 : Nat) (u1 : Option ZV), L = [some (.inr (.inr (5, x0))), u1] ∧ st = [] ∧ f_X5_town_J101 N x0 μ = some r := by
  unfold k_X5_town_J101 at h
  split at h
  · exact ⟨_, _, rfl, rfl, h⟩
  · cases h
set_option maxRecDepth 100000 in
theorem s_X5_town_J101 (N : Nat) {X : ZX} {E : ZE} (C : zk_X X E RX5 cX5_town 2 (some .int) ({ frames := 3, cells := 0, slots := 0, locals := 74 } : Room)) : zk_S X E 2 zq_I 101 (k_X5_town_J101 N) := by
  have e123 := s_X5_town_L123 N C N
  have h122 := zs_istore_n (i := 1) C dX5_town_122 rfl e123
  have h121 := zs_iconst (v := 0) C dX5_town_121 (by decide) h122
  have h120 := zs_iret C dX5_town_120
  have h119 := zs_isub C dX5_town_119 h120
  have h116 := zs_gI C dX5_town_116 zf_5_13 zw_556 h119
  have h115 := zs_aload_n (i := 0) C dX5_town_115 rfl h116
  have h113 := zs_bipush (v := (-20)) C dX5_town_113 (by decide) h115
  have h110 := zs_if_eq (tgt := 121) C dX5_town_110 (by decide) h121 h113
  have h107 := zs_gI C dX5_town_107 zf_5_12 zw_555 h110
  have h106 := zs_aload_n (i := 0) C dX5_town_106 rfl h107
  have h103 := zs_pI C dX5_town_103 zf_5_10 zw_553 rfl (by decide +kernel) h106
  have h102 := zs_iconst (v := 0) C dX5_town_102 (by decide) h103
  have h101 := zs_aload_n (i := 0) C dX5_town_101 rfl h102
  intro H locs ls L st μ r h hL hst hW hS
  obtain ⟨x0, u1, rfl, rfl, h⟩ := k_X5_town_J101_i h
  exact h101 H locs ls [some (.inr (.inr (5, x0))), none] [] μ r h (hL.less ⟨rfl, trivial⟩) hst hW hS
def f_X5_town_L47 (N : Nat) : Nat → Nat → ZM → Option (Int32 × ZM)
  | 0, _, _ => none
  | n + 1, x0, μ =>
    if ¬ (μ.1 x0 12) = 0 then
      f_X5_town_J101 N x0 μ
    else
      (f_X5_here N x0 μ).bind fun r1 =>
      if r1.1 = (-4 : Int32) then
        f_X5_town_J101 N x0 r1.2
      else
        let j90 : ZM → Option (Int32 × ZM) := fun μ2 =>
          (f_X5_wrongAt N x0 (μ2.1 x0 11) μ2).bind fun r3 =>
          f_X5_town_L47 N n x0 r3
        if (7 : Int32) ≤ (r1.2.1 (x0 + 2) 0) then
          j90 r1.2
        else
          (f_X5_takes N x0 44 r1.2).bind fun r4 =>
          if r4.1 = 0 then
            j90 r4.2
          else
            (f_X5_readCouple N x0 r4.2).bind fun r5 =>
            f_X5_town_L47 N n x0 r5
def k_X5_town_L47 (N n : Nat) : ZK (Int32 × ZM) := fun L st μ => match L, st with
  | [some (.inr (.inr (5, x0))), _], [] => f_X5_town_L47 N n x0 μ
  | _, _ => none
theorem k_X5_town_L47_i {N : Nat} {n : Nat} {L : ZL} {st : List ZV} {μ : ZM} {r : Int32 × ZM} (h : k_X5_town_L47 N n L st μ = some r) : ∃ (x0 : Nat) (u1 : Option ZV), L = [some (.inr (.inr (5, x0))), u1] ∧ st = [] ∧ f_X5_town_L47 N n x0 μ = some r := by
  unfold k_X5_town_L47 at h
  split at h
  · exact ⟨_, _, rfl, rfl, h⟩
  · cases h
set_option maxRecDepth 100000 in
theorem s_X5_town_L47 (N : Nat) {X : ZX} {E : ZE} (C : zk_X X E RX5 cX5_town 2 (some .int) ({ frames := 3, cells := 0, slots := 0, locals := 74 } : Room)) : ∀ n, zk_S X E 2 zq_I 47 (k_X5_town_L47 N n) := by
  intro n
  induction n with
  | zero =>
    intro H locs ls L st μ r h hL hst hW hS
    obtain ⟨x0, u1, rfl, rfl, h⟩ := k_X5_town_L47_i h
    exact nomatch (show none = some r from h)
  | succ n ih =>
    have e101 := s_X5_town_J101 N C
    have h98 := zs_goto (tgt := 47) C dX5_town_98 (by decide) ih
    have h95 := zs_vV C dX5_town_95 (m_X5_wrongAt N) zw_651 ⟨Nat.le_of_ble_eq_true rfl, Nat.le_of_ble_eq_true rfl⟩ h98
    have h92 := zs_gI C dX5_town_92 zf_5_11 zw_554 h95
    have h91 := zs_aload_n (i := 0) C dX5_town_91 rfl h92
    have h90 := zs_aload_n (i := 0) C dX5_town_90 rfl h91
    have h87 := zs_goto (tgt := 47) C dX5_town_87 (by decide) ih
    have h84 := zs_vV C dX5_town_84 (m_X5_readCouple N) zw_643 ⟨Nat.le_of_ble_eq_true rfl, Nat.le_of_ble_eq_true rfl⟩ h87
    have h83 := zs_aload_n (i := 0) C dX5_town_83 rfl h84
    have h80 := zs_if_eq (tgt := 90) C dX5_town_80 (by decide) h90 h83
    have h77 := zs_vI C dX5_town_77 (m_X5_takes N) zw_659 ⟨Nat.le_of_ble_eq_true rfl, Nat.le_of_ble_eq_true rfl⟩ h80
    have h75 := zs_bipush (v := 44) C dX5_town_75 (by decide) h77
    have h74 := zs_aload_n (i := 0) C dX5_town_74 rfl h75
    have h71 := zs_icmp_ge (tgt := 90) C dX5_town_71 (by decide) h90 h74
    have h69 := zs_bipush (v := 7) C dX5_town_69 (by decide) h71
    have h68 := zs_iald (n := 32) C dX5_town_68 (by decide) h69
    have h67 := zs_iconst (v := 0) C dX5_town_67 (by decide) h68
    have h64 := zs_gR C dX5_town_64 zf_5_1 zw_544 h67
    have h63 := zs_aload_n (i := 0) C dX5_town_63 rfl h64
    have h60 := zs_icmp_eq (tgt := 101) C dX5_town_60 (by decide) e101 h63
    have h58 := zs_bipush (v := (-4)) C dX5_town_58 (by decide) h60
    have h55 := zs_vI C dX5_town_55 (m_X5_here N) zw_647 ⟨Nat.le_of_ble_eq_true rfl, Nat.le_of_ble_eq_true rfl⟩ h58
    have h54 := zs_aload_n (i := 0) C dX5_town_54 rfl h55
    have h51 := zs_if_ne (tgt := 101) C dX5_town_51 (by decide) e101 h54
    have h48 := zs_gI C dX5_town_48 zf_5_12 zw_555 h51
    have h47 := zs_aload_n (i := 0) C dX5_town_47 rfl h48
    intro H locs ls L st μ r h hL hst hW hS
    obtain ⟨x0, u1, rfl, rfl, h⟩ := k_X5_town_L47_i h
    exact h47 H locs ls [some (.inr (.inr (5, x0))), none] [] μ r h (hL.less ⟨rfl, trivial⟩) hst hW hS
def f_X5_town_L2 (N : Nat) : Nat → Nat → Int32 → ZM → Option (Int32 × ZM)
  | 0, _, _, _ => none
  | n + 1, x0, x1, μ =>
    if (32 : Int32) ≤ x1 then
      let μ1 := zk_si μ (x0 + 2) 3 (μ.1 (x0 + 1) 3)
      let μ2 := zk_si μ1 x0 11 0
      let μ3 := zk_si μ2 x0 12 0
      (f_X5_readCouple N x0 μ3).bind fun r4 =>
      f_X5_town_L47 N N x0 r4
    else
      if zk_o x1 32 = true then none else
      let μ5 := zk_si μ (x0 + 2) (Int32.toNatClampNeg x1) 0
      f_X5_town_L2 N n x0 (x1 + 1) μ5
def k_X5_town_L2 (N n : Nat) : ZK (Int32 × ZM) := fun L st μ => match L, st with
  | [some (.inr (.inr (5, x0))), some (.inl x1)], [] => f_X5_town_L2 N n x0 x1 μ
  | _, _ => none
theorem k_X5_town_L2_i {N : Nat} {n : Nat} {L : ZL} {st : List ZV} {μ : ZM} {r : Int32 × ZM} (h : k_X5_town_L2 N n L st μ = some r) : ∃ (x0 : Nat) (x1 : Int32), L = [some (.inr (.inr (5, x0))), some (.inl x1)] ∧ st = [] ∧ f_X5_town_L2 N n x0 x1 μ = some r := by
  unfold k_X5_town_L2 at h
  split at h
  · exact ⟨_, _, rfl, rfl, h⟩
  · cases h
set_option maxRecDepth 100000 in
theorem s_X5_town_L2 (N : Nat) {X : ZX} {E : ZE} (C : zk_X X E RX5 cX5_town 2 (some .int) ({ frames := 3, cells := 0, slots := 0, locals := 74 } : Room)) : ∀ n, zk_S X E 2 zq_I 2 (k_X5_town_L2 N n) := by
  intro n
  induction n with
  | zero =>
    intro H locs ls L st μ r h hL hst hW hS
    obtain ⟨x0, x1, rfl, rfl, h⟩ := k_X5_town_L2_i h
    exact nomatch (show none = some r from h)
  | succ n ih =>
    have e47 := s_X5_town_L47 N C N
    have h44 := zs_vV C dX5_town_44 (m_X5_readCouple N) zw_643 ⟨Nat.le_of_ble_eq_true rfl, Nat.le_of_ble_eq_true rfl⟩ e47
    have h43 := zs_aload_n (i := 0) C dX5_town_43 rfl h44
    have h40 := zs_pZ C dX5_town_40 zf_5_12 zw_555 rfl (by decide +kernel) h43
    have h39 := zs_iconst (v := 0) C dX5_town_39 (by decide) h40
    have h38 := zs_aload_n (i := 0) C dX5_town_38 rfl h39
    have h35 := zs_pI C dX5_town_35 zf_5_11 zw_554 rfl (by decide +kernel) h38
    have h34 := zs_iconst (v := 0) C dX5_town_34 (by decide) h35
    have h33 := zs_aload_n (i := 0) C dX5_town_33 rfl h34
    have h32 := zs_iast (n := 32) C dX5_town_32 (by decide) h33
    have h31 := zs_iald (n := 32) C dX5_town_31 (by decide) h32
    have h30 := zs_iconst (v := 3) C dX5_town_30 (by decide) h31
    have h27 := zs_gR C dX5_town_27 zf_5_0 zw_543 h30
    have h26 := zs_aload_n (i := 0) C dX5_town_26 rfl h27
    have h25 := zs_iconst (v := 3) C dX5_town_25 (by decide) h26
    have h22 := zs_gR C dX5_town_22 zf_5_1 zw_544 h25
    have h21 := zs_aload_n (i := 0) C dX5_town_21 rfl h22
    have h18 := zs_goto (tgt := 2) C dX5_town_18 (by decide) ih
    have h15 := zs_iinc (n := 1) C dX5_town_15 (by decide) h18
    have h14 := zs_iast (n := 32) C dX5_town_14 (by decide) h15
    have h13 := zs_iconst (v := 0) C dX5_town_13 (by decide) h14
    have h12 := zs_iload_n (i := 1) C dX5_town_12 rfl h13
    have h9 := zs_gR C dX5_town_9 zf_5_1 zw_544 h12
    have h8 := zs_aload_n (i := 0) C dX5_town_8 rfl h9
    have h5 := zs_icmp_ge (tgt := 21) C dX5_town_5 (by decide) h21 h8
    have h3 := zs_bipush (v := 32) C dX5_town_3 (by decide) h5
    have h2 := zs_iload_n (i := 1) C dX5_town_2 rfl h3
    intro H locs ls L st μ r h hL hst hW hS
    obtain ⟨x0, x1, rfl, rfl, h⟩ := k_X5_town_L2_i h
    exact h2 H locs ls [some (.inr (.inr (5, x0))), some (.inl x1)] [] μ r h (hL.less ⟨rfl, rfl, trivial⟩) hst hW hS
def f_X5_town (N : Nat) (x0 : Nat) (μ : ZM) : Option (Int32 × ZM) :=
  f_X5_town_L2 N N x0 0 μ
def g_X5_town (N : Nat) (as : List ZV) (μ : ZM) : Option (Int32 × ZM) := match as with
  | [.inr (.inr (5, x0))] => f_X5_town N x0 μ
  | _ => none
theorem g_X5_town_i {N : Nat} {as : List ZV} {μ : ZM} {r : Int32 × ZM} (h : g_X5_town N as μ = some r) : ∃ (x0 : Nat), as = [.inr (.inr (5, x0))] ∧ f_X5_town N x0 μ = some r := by
  unfold g_X5_town at h
  split at h
  · exact ⟨_, rfl, h⟩
  · cases h
set_option maxRecDepth 100000 in
theorem c_X5_town (N : Nat) : zk_C yX5_town cX5_town 2 (some .int) ({ frames := 3, cells := 0, slots := 0, locals := 74 } : Room) zq_I (g_X5_town N) := by
  refine zk_met ?κ (by decide +kernel) ?hG ?body
  case body =>
    intro X E C
    have C : zk_X X E RX5 cX5_town 2 (some .int) ({ frames := 3, cells := 0, slots := 0, locals := 74 } : Room) := C
    have e2 := s_X5_town_L2 N C N
    have h1 := zs_istore_n (i := 1) C dX5_town_1 rfl e2
    have h0 := zs_iconst (v := 0) C dX5_town_0 (by decide) h1
    exact h0
  case hG =>
    intro as μ r h
    obtain ⟨x0, rfl, h⟩ := g_X5_town_i h
    exact ⟨Nat.le_of_ble_eq_true rfl, h⟩
theorem m_X5_town (N : Nat) : zk_MV yX5_town cX5_town 2 (some .int) ({ frames := 3, cells := 0, slots := 0, locals := 74 } : Room) zq_I (g_X5_town N) 0 5 := ⟨c_X5_town N, zw_642, zw_640, zw_641, zw_31, rfl, rfl, by decide +kernel, by decide, ⟨TX5, 18, rfl⟩, fun as μ r h => by obtain ⟨x0, rfl, -⟩ := g_X5_town_i h; exact ⟨_, _, rfl⟩⟩
-- LongestWedModel.togetherOf([I)I
def f_X5_togetherOf (N : Nat) (x0 : Nat) (μ : ZM) : Option (Int32 × ZM) :=
  some ((((1 <<< ((μ.1 x0 0) &&& 31)) - 1) &&& ((μ.1 x0 2) ^^^ (-1))), μ)
def g_X5_togetherOf (N : Nat) (as : List ZV) (μ : ZM) : Option (Int32 × ZM) := match as with
  | [.inr (.inr (1032, x0))] => f_X5_togetherOf N x0 μ
  | _ => none
theorem g_X5_togetherOf_i {N : Nat} {as : List ZV} {μ : ZM} {r : Int32 × ZM} (h : g_X5_togetherOf N as μ = some r) : ∃ (x0 : Nat), as = [.inr (.inr (1032, x0))] ∧ f_X5_togetherOf N x0 μ = some r := by
  unfold g_X5_togetherOf at h
  split at h
  · exact ⟨_, rfl, h⟩
  · cases h
set_option maxRecDepth 100000 in
theorem c_X5_togetherOf (N : Nat) : zk_C yX5_togetherOf cX5_togetherOf 1 (some .int) ({ frames := 0, cells := 0, slots := 0, locals := 0 } : Room) zq_I (g_X5_togetherOf N) := by
  refine zk_met ?κ (by decide +kernel) ?hG ?body
  case body =>
    intro X E C
    have C : zk_X X E RX5 cX5_togetherOf 1 (some .int) ({ frames := 0, cells := 0, slots := 0, locals := 0 } : Room) := C
    have h13 := zs_iret C dX5_togetherOf_13
    have h12 := zs_iand C dX5_togetherOf_12 h13
    have h11 := zs_ixor C dX5_togetherOf_11 h12
    have h10 := zs_iconst (v := (-1)) C dX5_togetherOf_10 (by decide) h11
    have h9 := zs_iald (n := 32) C dX5_togetherOf_9 (by decide) h10
    have h8 := zs_iconst (v := 2) C dX5_togetherOf_8 (by decide) h9
    have h7 := zs_aload_n (i := 0) C dX5_togetherOf_7 rfl h8
    have h6 := zs_isub C dX5_togetherOf_6 h7
    have h5 := zs_iconst (v := 1) C dX5_togetherOf_5 (by decide) h6
    have h4 := zs_ishl C dX5_togetherOf_4 h5
    have h3 := zs_iald (n := 32) C dX5_togetherOf_3 (by decide) h4
    have h2 := zs_iconst (v := 0) C dX5_togetherOf_2 (by decide) h3
    have h1 := zs_aload_n (i := 0) C dX5_togetherOf_1 rfl h2
    have h0 := zs_iconst (v := 1) C dX5_togetherOf_0 (by decide) h1
    exact h0
  case hG =>
    intro as μ r h
    obtain ⟨x0, rfl, h⟩ := g_X5_togetherOf_i h
    exact ⟨Nat.le_of_ble_eq_true rfl, h⟩
theorem m_X5_togetherOf (N : Nat) : zk_MS yX5_togetherOf cX5_togetherOf 1 (some .int) ({ frames := 0, cells := 0, slots := 0, locals := 0 } : Room) zq_I (g_X5_togetherOf N) 1 := ⟨c_X5_togetherOf N, zw_669, zw_668, zw_31, rfl, rfl, by decide +kernel⟩
-- LongestWedModel.count(I)I
def f_X5_count_L84 (N : Nat) : Nat → Nat → Int32 → Int32 → ZM → Option (Int32 × ZM)
  | 0, _, _, _, _ => none
  | n + 1, x0, x2, x3, μ =>
    if (μ.1 (x0 + 1) 0) ≤ x3 then
      some (x2, μ)
    else
      (f_X5_isParted N (x0 + 1) x3 μ).bind fun r1 =>
      let j119 : Int32 → Option (Int32 × ZM) := fun b2 =>
        f_X5_count_L84 N n x0 (x2 + b2) (x3 + 1) r1.2
      if r1.1 = 0 then
        if zk_o (25 + x3) 32 = true then none else
        j119 (r1.2.1 (x0 + 1) (Int32.toNatClampNeg (25 + x3)))
      else
        j119 0
def k_X5_count_L84 (N n : Nat) : ZK (Int32 × ZM) := fun L st μ => match L, st with
  | [some (.inr (.inr (5, x0))), _, some (.inl x2), some (.inl x3)], [] => f_X5_count_L84 N n x0 x2 x3 μ
  | _, _ => none
theorem k_X5_count_L84_i {N : Nat} {n : Nat} {L : ZL} {st : List ZV} {μ : ZM} {r : Int32 × ZM} (h : k_X5_count_L84 N n L st μ = some r) : ∃ (x0 : Nat) (x2 : Int32) (x3 : Int32) (u1 : Option ZV), L = [some (.inr (.inr (5, x0))), u1, some (.inl x2), some (.inl x3)] ∧ st = [] ∧ f_X5_count_L84 N n x0 x2 x3 μ = some r := by
  unfold k_X5_count_L84 at h
  split at h
  · exact ⟨_, _, _, _, rfl, rfl, h⟩
  · cases h
set_option maxRecDepth 100000 in
theorem s_X5_count_L84 (N : Nat) {X : ZX} {E : ZE} (C : zk_X X E RX5 cX5_count 4 (some .int) ({ frames := 5, cells := 0, slots := 0, locals := 107 } : Room)) : ∀ n, zk_S X E 4 zq_I 84 (k_X5_count_L84 N n) := by
  intro n
  induction n with
  | zero =>
    intro H locs ls L st μ r h hL hst hW hS
    obtain ⟨x0, x2, x3, u1, rfl, rfl, h⟩ := k_X5_count_L84_i h
    exact nomatch (show none = some r from h)
  | succ n ih =>
    have h128 := zs_iret C dX5_count_128
    have h127 := zs_iload_n (i := 2) C dX5_count_127 rfl h128
    have h124 := zs_goto (tgt := 84) C dX5_count_124 (by decide) ih
    have h121 := zs_iinc (n := 1) C dX5_count_121 (by decide) h124
    have h120 := zs_istore_n (i := 2) C dX5_count_120 rfl h121
    have h119 := zs_iadd C dX5_count_119 h120
    have h118 := zs_iald (n := 32) C dX5_count_118 (by decide) h119
    have h117 := zs_iadd C dX5_count_117 h118
    have h116 := zs_iload_n (i := 3) C dX5_count_116 rfl h117
    have h114 := zs_bipush (v := 25) C dX5_count_114 (by decide) h116
    have h111 := zs_gR C dX5_count_111 zf_5_0 zw_543 h114
    have h110 := zs_aload_n (i := 0) C dX5_count_110 rfl h111
    have h107 := zs_goto (tgt := 119) C dX5_count_107 (by decide) h119
    have h106 := zs_iconst (v := 0) C dX5_count_106 (by decide) h107
    have h103 := zs_if_eq (tgt := 110) C dX5_count_103 (by decide) h110 h106
    have h100 := zs_sI C dX5_count_100 (m_X5_isParted N) zw_617 ⟨Nat.le_of_ble_eq_true rfl, Nat.le_of_ble_eq_true rfl⟩ h103
    have h99 := zs_iload_n (i := 3) C dX5_count_99 rfl h100
    have h96 := zs_gR C dX5_count_96 zf_5_0 zw_543 h99
    have h95 := zs_aload_n (i := 0) C dX5_count_95 rfl h96
    have h94 := zs_iload_n (i := 2) C dX5_count_94 rfl h95
    have h91 := zs_icmp_ge (tgt := 127) C dX5_count_91 (by decide) h127 h94
    have h90 := zs_iald (n := 32) C dX5_count_90 (by decide) h91
    have h89 := zs_iconst (v := 0) C dX5_count_89 (by decide) h90
    have h86 := zs_gR C dX5_count_86 zf_5_0 zw_543 h89
    have h85 := zs_aload_n (i := 0) C dX5_count_85 rfl h86
    have h84 := zs_iload_n (i := 3) C dX5_count_84 rfl h85
    intro H locs ls L st μ r h hL hst hW hS
    obtain ⟨x0, x2, x3, u1, rfl, rfl, h⟩ := k_X5_count_L84_i h
    exact h84 H locs ls [some (.inr (.inr (5, x0))), none, some (.inl x2), some (.inl x3)] [] μ r h (hL.less ⟨rfl, rfl, rfl, trivial⟩) hst hW hS
def f_X5_count (N : Nat) (x0 : Nat) (x1 : Int32) (μ : ZM) : Option (Int32 × ZM) :=
  if x1 = 0 then
    some ((μ.1 (x0 + 1) 0), μ)
  else
  if x1 = 1 then
    some ((μ.1 (x0 + 1) 1), μ)
  else
  if x1 = 2 then
    (f_X5_keysOf N (x0 + 1) μ).bind fun r1 =>
    some (r1.1, r1.2)
  else
  if x1 = 3 then
    (f_X5_secondOf N (x0 + 1) μ).bind fun r2 =>
    some (r2.1, r2.2)
  else
  if x1 = 4 then
    (f_X5_togetherOf N (x0 + 1) μ).bind fun r3 =>
    some (r3.1, r3.2)
  else
  if x1 = 5 then
    f_X5_count_L84 N N x0 0 0 μ
  else
  if x1 = 6 then
    some ((μ.1 x0 3), μ)
  else
    some ((-1), μ)
def g_X5_count (N : Nat) (as : List ZV) (μ : ZM) : Option (Int32 × ZM) := match as with
  | [.inr (.inr (5, x0)), .inl x1] => f_X5_count N x0 x1 μ
  | _ => none
theorem g_X5_count_i {N : Nat} {as : List ZV} {μ : ZM} {r : Int32 × ZM} (h : g_X5_count N as μ = some r) : ∃ (x0 : Nat) (x1 : Int32), as = [.inr (.inr (5, x0)), .inl x1] ∧ f_X5_count N x0 x1 μ = some r := by
  unfold g_X5_count at h
  split at h
  · exact ⟨_, _, rfl, h⟩
  · cases h
set_option maxRecDepth 100000 in
theorem c_X5_count (N : Nat) : zk_C yX5_count cX5_count 4 (some .int) ({ frames := 5, cells := 0, slots := 0, locals := 107 } : Room) zq_I (g_X5_count N) := by
  refine zk_met ?κ (by decide +kernel) ?hG ?body
  case body =>
    intro X E C
    have C : zk_X X E RX5 cX5_count 4 (some .int) ({ frames := 5, cells := 0, slots := 0, locals := 107 } : Room) := C
    have e84 := s_X5_count_L84 N C N
    have h135 := zs_iret C dX5_count_135
    have h134 := zs_iconst (v := (-1)) C dX5_count_134 (by decide) h135
    have h133 := zs_iret C dX5_count_133
    have h130 := zs_gI C dX5_count_130 zf_5_3 zw_546 h133
    have h129 := zs_aload_n (i := 0) C dX5_count_129 rfl h130
    have h83 := zs_istore_n (i := 3) C dX5_count_83 rfl e84
    have h82 := zs_iconst (v := 0) C dX5_count_82 (by decide) h83
    have h81 := zs_iret C dX5_count_81
    have h78 := zs_sI C dX5_count_78 (m_X5_togetherOf N) zw_667 ⟨Nat.le_of_ble_eq_true rfl, Nat.le_of_ble_eq_true rfl⟩ h81
    have h75 := zs_gR C dX5_count_75 zf_5_0 zw_543 h78
    have h74 := zs_aload_n (i := 0) C dX5_count_74 rfl h75
    have h73 := zs_iret C dX5_count_73
    have h70 := zs_sI C dX5_count_70 (m_X5_secondOf N) zw_632 ⟨Nat.le_of_ble_eq_true rfl, Nat.le_of_ble_eq_true rfl⟩ h73
    have h67 := zs_gR C dX5_count_67 zf_5_0 zw_543 h70
    have h66 := zs_aload_n (i := 0) C dX5_count_66 rfl h67
    have h65 := zs_iret C dX5_count_65
    have h62 := zs_sI C dX5_count_62 (m_X5_keysOf N) zw_626 ⟨Nat.le_of_ble_eq_true rfl, Nat.le_of_ble_eq_true rfl⟩ h65
    have h59 := zs_gR C dX5_count_59 zf_5_0 zw_543 h62
    have h58 := zs_aload_n (i := 0) C dX5_count_58 rfl h59
    have h57 := zs_iret C dX5_count_57
    have h56 := zs_iald (n := 32) C dX5_count_56 (by decide) h57
    have h55 := zs_iconst (v := 1) C dX5_count_55 (by decide) h56
    have h52 := zs_gR C dX5_count_52 zf_5_0 zw_543 h55
    have h51 := zs_aload_n (i := 0) C dX5_count_51 rfl h52
    have h50 := zs_iret C dX5_count_50
    have h49 := zs_iald (n := 32) C dX5_count_49 (by decide) h50
    have h48 := zs_iconst (v := 0) C dX5_count_48 (by decide) h49
    have h45 := zs_gR C dX5_count_45 zf_5_0 zw_543 h48
    have h44 := zs_aload_n (i := 0) C dX5_count_44 rfl h45
    have h3 := zs_tab (q := zq_I) (cs := [(0, _), (1, _), (2, _), (3, _), (4, _), (5, _), (6, _)]) (xs := [0, 1, 2, 3, 4, 5, 6]) (tg := (fun x => if x = 0 then 44 else if x = 1 then 51 else if x = 2 then 58 else if x = 3 then 66 else if x = 4 then 74 else if x = 5 then 82 else if x = 6 then 129 else 0)) (tgt := 134) C dX5_count_3 (by decide) (by decide) rfl (by decide +kernel) (by decide +kernel) (List.forall_mem_cons.mpr ⟨h44, (List.forall_mem_cons.mpr ⟨h51, (List.forall_mem_cons.mpr ⟨h58, (List.forall_mem_cons.mpr ⟨h66, (List.forall_mem_cons.mpr ⟨h74, (List.forall_mem_cons.mpr ⟨h82, (List.forall_mem_cons.mpr ⟨h129, (fun _ h => absurd h List.not_mem_nil)⟩)⟩)⟩)⟩)⟩)⟩)⟩) h134
    have h2 := zs_iload_n (i := 1) C dX5_count_2 rfl h3
    have h1 := zs_istore_n (i := 2) C dX5_count_1 rfl h2
    have h0 := zs_iconst (v := 0) C dX5_count_0 (by decide) h1
    exact h0
  case hG =>
    intro as μ r h
    obtain ⟨x0, x1, rfl, h⟩ := g_X5_count_i h
    exact ⟨Nat.le_of_ble_eq_true rfl, h⟩
theorem m_X5_count (N : Nat) : zk_MV yX5_count cX5_count 4 (some .int) ({ frames := 5, cells := 0, slots := 0, locals := 107 } : Room) zq_I (g_X5_count N) 1 5 := ⟨c_X5_count N, zw_666, zw_664, zw_665, zw_31, rfl, rfl, by decide +kernel, by decide, ⟨TX5, 18, rfl⟩, fun as μ r h => by obtain ⟨x0, x1, rfl, -⟩ := g_X5_count_i h; exact ⟨_, _, rfl⟩⟩
