-- LongestWed.within(III)Z
def f_X4_within (N : Nat) (x0 : Int32) (x1 : Int32) (x2 : Int32) (μ : ZM) : Option (Int32 × ZM) :=
  if x0 < x1 then
    zk_zr 0 μ
  else
    if x2 < x0 then
      zk_zr 0 μ
    else
      zk_zr 1 μ
def g_X4_within (N : Nat) (as : List ZV) (μ : ZM) : Option (Int32 × ZM) := match as with
  | [.inl x0, .inl x1, .inl x2] => f_X4_within N x0 x1 x2 μ
  | _ => none
theorem g_X4_within_i {N : Nat} {as : List ZV} {μ : ZM} {r : Int32 × ZM} (h : g_X4_within N as μ = some r) : ∃ (x0 : Int32) (x1 : Int32) (x2 : Int32), as = [.inl x0, .inl x1, .inl x2] ∧ f_X4_within N x0 x1 x2 μ = some r := by
  unfold g_X4_within at h
  split at h
  · exact ⟨_, _, _, rfl, h⟩
  · cases h
set_option maxRecDepth 100000 in
theorem c_X4_within (N : Nat) : zk_C yX4_within cX4_within 3 (some .boolean) ({ frames := 0, cells := 0, slots := 0, locals := 0 } : Room) zq_I (g_X4_within N) := by
  refine zk_met ?κ (by decide +kernel) ?hG ?body
  case body =>
    intro X E C
    have C : zk_X X E RX4 cX4_within 3 (some .boolean) ({ frames := 0, cells := 0, slots := 0, locals := 0 } : Room) := C
    have h15 := zs_zret C dX4_within_15
    have h14 := zs_iconst (v := 0) C dX4_within_14 (by decide) h15
    have h11 := zs_goto (tgt := 15) C dX4_within_11 (by decide) h15
    have h10 := zs_iconst (v := 1) C dX4_within_10 (by decide) h11
    have h7 := zs_icmp_gt (tgt := 14) C dX4_within_7 (by decide) h14 h10
    have h6 := zs_iload_n (i := 2) C dX4_within_6 rfl h7
    have h5 := zs_iload_n (i := 0) C dX4_within_5 rfl h6
    have h2 := zs_icmp_lt (tgt := 14) C dX4_within_2 (by decide) h14 h5
    have h1 := zs_iload_n (i := 1) C dX4_within_1 rfl h2
    have h0 := zs_iload_n (i := 0) C dX4_within_0 rfl h1
    exact h0
  case hG =>
    intro as μ r h
    obtain ⟨x0, x1, x2, rfl, h⟩ := g_X4_within_i h
    exact ⟨Nat.le_of_ble_eq_true rfl, h⟩
theorem m_X4_within (N : Nat) : zk_MS yX4_within cX4_within 3 (some .boolean) ({ frames := 0, cells := 0, slots := 0, locals := 0 } : Room) zq_I (g_X4_within N) 3 := ⟨c_X4_within N, zw_176, zw_175, zw_26, rfl, rfl, by decide +kernel⟩
-- LongestWed.couple(II)I
def f_X4_couple (N : Nat) (x0 : Nat) (x1 : Int32) (x2 : Int32) (μ : ZM) : Option (Int32 × ZM) :=
  (f_X4_within N x1 0 4 μ).bind fun r1 =>
  if r1.1 = 0 then
    some ((-1), r1.2)
  else
    (f_X4_within N x2 0 80 r1.2).bind fun r2 =>
    if ¬ r2.1 = 0 then
      if (r2.2.1 (x0 + 1) 4) < (7 : Int32) then
        (f_X0_forget N (x0 + 6) r2.2).bind fun r3 =>
        (f_X3_settle N (x0 + 1) x1 x2 40 0 1 r3).bind fun r4 =>
        some (r4.1, r4.2)
      else
        some ((-3), r2.2)
    else
      some ((-1), r2.2)
def g_X4_couple (N : Nat) (as : List ZV) (μ : ZM) : Option (Int32 × ZM) := match as with
  | [.inr (.inr (4, x0)), .inl x1, .inl x2] => f_X4_couple N x0 x1 x2 μ
  | _ => none
theorem g_X4_couple_i {N : Nat} {as : List ZV} {μ : ZM} {r : Int32 × ZM} (h : g_X4_couple N as μ = some r) : ∃ (x0 : Nat) (x1 : Int32) (x2 : Int32), as = [.inr (.inr (4, x0)), .inl x1, .inl x2] ∧ f_X4_couple N x0 x1 x2 μ = some r := by
  unfold g_X4_couple at h
  split at h
  · exact ⟨_, _, _, rfl, h⟩
  · cases h
set_option maxRecDepth 100000 in
theorem c_X4_couple (N : Nat) : zk_C yX4_couple cX4_couple 3 (some .int) ({ frames := 1, cells := 0, slots := 0, locals := 26 } : Room) zq_I (g_X4_couple N) := by
  refine zk_met ?κ (by decide +kernel) ?hG ?body
  case body =>
    intro X E C
    have C : zk_X X E RX4 cX4_couple 3 (some .int) ({ frames := 1, cells := 0, slots := 0, locals := 26 } : Room) := C
    have h56 := zs_iret C dX4_couple_56
    have h53 := zs_vI C dX4_couple_53 (m_X3_settle N) zw_181 ⟨Nat.le_of_ble_eq_true rfl, Nat.le_of_ble_eq_true rfl⟩ h56
    have h52 := zs_iconst (v := 1) C dX4_couple_52 (by decide) h53
    have h51 := zs_iconst (v := 0) C dX4_couple_51 (by decide) h52
    have h49 := zs_bipush (v := 40) C dX4_couple_49 (by decide) h51
    have h48 := zs_iload_n (i := 2) C dX4_couple_48 rfl h49
    have h47 := zs_iload_n (i := 1) C dX4_couple_47 rfl h48
    have h44 := zs_gR C dX4_couple_44 zf_4_0 zw_145 h47
    have h43 := zs_aload_n (i := 0) C dX4_couple_43 rfl h44
    have h40 := zs_vV C dX4_couple_40 (m_X0_forget N) zw_177 ⟨Nat.le_of_ble_eq_true rfl, Nat.le_of_ble_eq_true rfl⟩ h43
    have h37 := zs_gR C dX4_couple_37 zf_4_1 zw_146 h40
    have h36 := zs_aload_n (i := 0) C dX4_couple_36 rfl h37
    have h35 := zs_iret C dX4_couple_35
    have h33 := zs_bipush (v := (-3)) C dX4_couple_33 (by decide) h35
    have h30 := zs_icmp_lt (tgt := 36) C dX4_couple_30 (by decide) h36 h33
    have h28 := zs_bipush (v := 7) C dX4_couple_28 (by decide) h30
    have h25 := zs_gI C dX4_couple_25 zf_3_4 zw_58 h28
    have h22 := zs_gR C dX4_couple_22 zf_4_0 zw_145 h25
    have h21 := zs_aload_n (i := 0) C dX4_couple_21 rfl h22
    have h20 := zs_iret C dX4_couple_20
    have h19 := zs_iconst (v := (-1)) C dX4_couple_19 (by decide) h20
    have h16 := zs_if_ne (tgt := 21) C dX4_couple_16 (by decide) h21 h19
    have h13 := zs_sI C dX4_couple_13 (m_X4_within N) zw_174 ⟨Nat.le_of_ble_eq_true rfl, Nat.le_of_ble_eq_true rfl⟩ h16
    have h11 := zs_bipush (v := 80) C dX4_couple_11 (by decide) h13
    have h10 := zs_iconst (v := 0) C dX4_couple_10 (by decide) h11
    have h9 := zs_iload_n (i := 2) C dX4_couple_9 rfl h10
    have h6 := zs_if_eq (tgt := 19) C dX4_couple_6 (by decide) h19 h9
    have h3 := zs_sI C dX4_couple_3 (m_X4_within N) zw_174 ⟨Nat.le_of_ble_eq_true rfl, Nat.le_of_ble_eq_true rfl⟩ h6
    have h2 := zs_iconst (v := 4) C dX4_couple_2 (by decide) h3
    have h1 := zs_iconst (v := 0) C dX4_couple_1 (by decide) h2
    have h0 := zs_iload_n (i := 1) C dX4_couple_0 rfl h1
    exact h0
  case hG =>
    intro as μ r h
    obtain ⟨x0, x1, x2, rfl, h⟩ := g_X4_couple_i h
    exact ⟨Nat.le_of_ble_eq_true rfl, h⟩
theorem m_X4_couple (N : Nat) : zk_MV yX4_couple cX4_couple 3 (some .int) ({ frames := 1, cells := 0, slots := 0, locals := 26 } : Room) zq_I (g_X4_couple N) 2 4 := ⟨c_X4_couple N, zw_173, zw_171, zw_172, zw_26, rfl, rfl, by decide +kernel, by decide, ⟨TX4, 8, rfl⟩, fun as μ r h => by obtain ⟨x0, x1, x2, rfl, -⟩ := g_X4_couple_i h; exact ⟨_, _, rfl⟩⟩
-- LongestWed.isCouple(I)Z
def f_X4_isCouple (N : Nat) (x0 : Nat) (x1 : Int32) (μ : ZM) : Option (Int32 × ZM) :=
  if x1 < 0 then
    zk_zr 0 μ
  else
    if (μ.1 (x0 + 1) 4) ≤ x1 then
      zk_zr 0 μ
    else
      zk_zr 1 μ
def g_X4_isCouple (N : Nat) (as : List ZV) (μ : ZM) : Option (Int32 × ZM) := match as with
  | [.inr (.inr (4, x0)), .inl x1] => f_X4_isCouple N x0 x1 μ
  | _ => none
theorem g_X4_isCouple_i {N : Nat} {as : List ZV} {μ : ZM} {r : Int32 × ZM} (h : g_X4_isCouple N as μ = some r) : ∃ (x0 : Nat) (x1 : Int32), as = [.inr (.inr (4, x0)), .inl x1] ∧ f_X4_isCouple N x0 x1 μ = some r := by
  unfold g_X4_isCouple at h
  split at h
  · exact ⟨_, _, rfl, h⟩
  · cases h
set_option maxRecDepth 100000 in
theorem c_X4_isCouple (N : Nat) : zk_C yX4_isCouple cX4_isCouple 2 (some .boolean) ({ frames := 0, cells := 0, slots := 0, locals := 0 } : Room) zq_I (g_X4_isCouple N) := by
  refine zk_met ?κ (by decide +kernel) ?hG ?body
  case body =>
    intro X E C
    have C : zk_X X E RX4 cX4_isCouple 2 (some .boolean) ({ frames := 0, cells := 0, slots := 0, locals := 0 } : Room) := C
    have h20 := zs_zret C dX4_isCouple_20
    have h19 := zs_iconst (v := 0) C dX4_isCouple_19 (by decide) h20
    have h16 := zs_goto (tgt := 20) C dX4_isCouple_16 (by decide) h20
    have h15 := zs_iconst (v := 1) C dX4_isCouple_15 (by decide) h16
    have h12 := zs_icmp_ge (tgt := 19) C dX4_isCouple_12 (by decide) h19 h15
    have h9 := zs_gI C dX4_isCouple_9 zf_3_4 zw_58 h12
    have h6 := zs_gR C dX4_isCouple_6 zf_4_0 zw_145 h9
    have h5 := zs_aload_n (i := 0) C dX4_isCouple_5 rfl h6
    have h4 := zs_iload_n (i := 1) C dX4_isCouple_4 rfl h5
    have h1 := zs_if_lt (tgt := 19) C dX4_isCouple_1 (by decide) h19 h4
    have h0 := zs_iload_n (i := 1) C dX4_isCouple_0 rfl h1
    exact h0
  case hG =>
    intro as μ r h
    obtain ⟨x0, x1, rfl, h⟩ := g_X4_isCouple_i h
    exact ⟨Nat.le_of_ble_eq_true rfl, h⟩
theorem m_X4_isCouple (N : Nat) : zk_MV yX4_isCouple cX4_isCouple 2 (some .boolean) ({ frames := 0, cells := 0, slots := 0, locals := 0 } : Room) zq_I (g_X4_isCouple N) 1 4 := ⟨c_X4_isCouple N, zw_192, zw_191, zw_0, zw_26, rfl, rfl, by decide +kernel, by decide, ⟨TX4, 8, rfl⟩, fun as μ r h => by obtain ⟨x0, x1, rfl, -⟩ := g_X4_isCouple_i h; exact ⟨_, _, rfl⟩⟩
-- LongestWed.of(II)I
def f_X4_of (N : Nat) (x0 : Nat) (x1 : Int32) (x2 : Int32) (μ : ZM) : Option (Int32 × ZM) :=
  (f_X4_isCouple N x0 x1 μ).bind fun r1 =>
  if ¬ r1.1 = 0 then
    if x2 = 0 then
      if zk_o x1 7 = true then none else
      some ((r1.2.1 ((x0 + 1) + 1) (Int32.toNatClampNeg x1)), r1.2)
    else
    if x2 = 1 then
      if zk_o x1 7 = true then none else
      some ((r1.2.1 ((x0 + 1) + 2) (Int32.toNatClampNeg x1)), r1.2)
    else
    if x2 = 2 then
      if zk_o x1 7 = true then none else
      some ((r1.2.1 ((x0 + 1) + 3) (Int32.toNatClampNeg x1)), r1.2)
    else
    if x2 = 3 then
      if zk_o x1 7 = true then none else
      some ((r1.2.1 ((x0 + 1) + 4) (Int32.toNatClampNeg x1)), r1.2)
    else
    if x2 = 4 then
      (f_X3_isTogether N (x0 + 1) x1 r1.2).bind fun r2 =>
      if r2.1 = 0 then
        some (1, r2.2)
      else
        some (0, r2.2)
    else
    if x2 = 5 then
      (f_X3_worseThisYear N (x0 + 1) x1 r1.2).bind fun r3 =>
      some ((r3.1 + 10), r3.2)
    else
      some ((-1), r1.2)
  else
    some ((-1), r1.2)
def g_X4_of (N : Nat) (as : List ZV) (μ : ZM) : Option (Int32 × ZM) := match as with
  | [.inr (.inr (4, x0)), .inl x1, .inl x2] => f_X4_of N x0 x1 x2 μ
  | _ => none
theorem g_X4_of_i {N : Nat} {as : List ZV} {μ : ZM} {r : Int32 × ZM} (h : g_X4_of N as μ = some r) : ∃ (x0 : Nat) (x1 : Int32) (x2 : Int32), as = [.inr (.inr (4, x0)), .inl x1, .inl x2] ∧ f_X4_of N x0 x1 x2 μ = some r := by
  unfold g_X4_of at h
  split at h
  · exact ⟨_, _, _, rfl, h⟩
  · cases h
set_option maxRecDepth 100000 in
theorem c_X4_of (N : Nat) : zk_C yX4_of cX4_of 3 (some .int) ({ frames := 3, cells := 0, slots := 0, locals := 66 } : Room) zq_I (g_X4_of N) := by
  refine zk_met ?κ (by decide +kernel) ?hG ?body
  case body =>
    intro X E C
    have C : zk_X X E RX4 cX4_of 3 (some .int) ({ frames := 3, cells := 0, slots := 0, locals := 66 } : Room) := C
    have h118 := zs_iret C dX4_of_118
    have h117 := zs_iconst (v := (-1)) C dX4_of_117 (by decide) h118
    have h116 := zs_iret C dX4_of_116
    have h115 := zs_iadd C dX4_of_115 h116
    have h113 := zs_bipush (v := 10) C dX4_of_113 (by decide) h115
    have h110 := zs_vI C dX4_of_110 (m_X3_worseThisYear N) zw_197 ⟨Nat.le_of_ble_eq_true rfl, Nat.le_of_ble_eq_true rfl⟩ h113
    have h109 := zs_iload_n (i := 1) C dX4_of_109 rfl h110
    have h106 := zs_gR C dX4_of_106 zf_4_0 zw_145 h109
    have h105 := zs_aload_n (i := 0) C dX4_of_105 rfl h106
    have h104 := zs_iret C dX4_of_104
    have h103 := zs_iconst (v := 1) C dX4_of_103 (by decide) h104
    have h100 := zs_goto (tgt := 104) C dX4_of_100 (by decide) h104
    have h99 := zs_iconst (v := 0) C dX4_of_99 (by decide) h100
    have h96 := zs_if_eq (tgt := 103) C dX4_of_96 (by decide) h103 h99
    have h93 := zs_vI C dX4_of_93 (m_X3_isTogether N) zw_193 ⟨Nat.le_of_ble_eq_true rfl, Nat.le_of_ble_eq_true rfl⟩ h96
    have h92 := zs_iload_n (i := 1) C dX4_of_92 rfl h93
    have h89 := zs_gR C dX4_of_89 zf_4_0 zw_145 h92
    have h88 := zs_aload_n (i := 0) C dX4_of_88 rfl h89
    have h87 := zs_iret C dX4_of_87
    have h86 := zs_iald (n := 7) C dX4_of_86 (by decide) h87
    have h85 := zs_iload_n (i := 1) C dX4_of_85 rfl h86
    have h82 := zs_gR C dX4_of_82 zf_3_3 zw_56 h85
    have h79 := zs_gR C dX4_of_79 zf_4_0 zw_145 h82
    have h78 := zs_aload_n (i := 0) C dX4_of_78 rfl h79
    have h77 := zs_iret C dX4_of_77
    have h76 := zs_iald (n := 7) C dX4_of_76 (by decide) h77
    have h75 := zs_iload_n (i := 1) C dX4_of_75 rfl h76
    have h72 := zs_gR C dX4_of_72 zf_3_2 zw_54 h75
    have h69 := zs_gR C dX4_of_69 zf_4_0 zw_145 h72
    have h68 := zs_aload_n (i := 0) C dX4_of_68 rfl h69
    have h67 := zs_iret C dX4_of_67
    have h66 := zs_iald (n := 7) C dX4_of_66 (by decide) h67
    have h65 := zs_iload_n (i := 1) C dX4_of_65 rfl h66
    have h62 := zs_gR C dX4_of_62 zf_3_1 zw_52 h65
    have h59 := zs_gR C dX4_of_59 zf_4_0 zw_145 h62
    have h58 := zs_aload_n (i := 0) C dX4_of_58 rfl h59
    have h57 := zs_iret C dX4_of_57
    have h56 := zs_iald (n := 7) C dX4_of_56 (by decide) h57
    have h55 := zs_iload_n (i := 1) C dX4_of_55 rfl h56
    have h52 := zs_gR C dX4_of_52 zf_3_0 zw_50 h55
    have h49 := zs_gR C dX4_of_49 zf_4_0 zw_145 h52
    have h48 := zs_aload_n (i := 0) C dX4_of_48 rfl h49
    have h11 := zs_tab (q := zq_I) (cs := [(0, _), (1, _), (2, _), (3, _), (4, _), (5, _)]) (xs := [0, 1, 2, 3, 4, 5]) (tg := (fun x => if x = 0 then 48 else if x = 1 then 58 else if x = 2 then 68 else if x = 3 then 78 else if x = 4 then 88 else if x = 5 then 105 else 0)) (tgt := 117) C dX4_of_11 (by decide) (by decide) rfl (by decide +kernel) (by decide +kernel) (List.forall_mem_cons.mpr ⟨h48, (List.forall_mem_cons.mpr ⟨h58, (List.forall_mem_cons.mpr ⟨h68, (List.forall_mem_cons.mpr ⟨h78, (List.forall_mem_cons.mpr ⟨h88, (List.forall_mem_cons.mpr ⟨h105, (fun _ h => absurd h List.not_mem_nil)⟩)⟩)⟩)⟩)⟩)⟩) h117
    have h10 := zs_iload_n (i := 2) C dX4_of_10 rfl h11
    have h9 := zs_iret C dX4_of_9
    have h8 := zs_iconst (v := (-1)) C dX4_of_8 (by decide) h9
    have h5 := zs_if_ne (tgt := 10) C dX4_of_5 (by decide) h10 h8
    have h2 := zs_vI C dX4_of_2 (m_X4_isCouple N) zw_189 ⟨Nat.le_of_ble_eq_true rfl, Nat.le_of_ble_eq_true rfl⟩ h5
    have h1 := zs_iload_n (i := 1) C dX4_of_1 rfl h2
    have h0 := zs_aload_n (i := 0) C dX4_of_0 rfl h1
    exact h0
  case hG =>
    intro as μ r h
    obtain ⟨x0, x1, x2, rfl, h⟩ := g_X4_of_i h
    exact ⟨Nat.le_of_ble_eq_true rfl, h⟩
theorem m_X4_of (N : Nat) : zk_MV yX4_of cX4_of 3 (some .int) ({ frames := 3, cells := 0, slots := 0, locals := 66 } : Room) zq_I (g_X4_of N) 2 4 := ⟨c_X4_of N, zw_188, zw_186, zw_187, zw_26, rfl, rfl, by decide +kernel, by decide, ⟨TX4, 8, rfl⟩, fun as μ r h => by obtain ⟨x0, x1, x2, rfl, -⟩ := g_X4_of_i h; exact ⟨_, _, rfl⟩⟩
-- LongestWed.type(I)I
def f_X4_type (N : Nat) (x0 : Nat) (x1 : Int32) (μ : ZM) : Option (Int32 × ZM) :=
  (f_X4_within N x1 32 126 μ).bind fun r1 =>
  if ¬ r1.1 = 0 then
    if (r1.2.1 (x0 + 95) 1) < (80 : Int32) then
      (f_X2_write N (x0 + 95) x1 r1.2).bind fun r2 =>
      some (r2.1, r2.2)
    else
      some ((-3), r1.2)
  else
    some ((-1), r1.2)
def g_X4_type (N : Nat) (as : List ZV) (μ : ZM) : Option (Int32 × ZM) := match as with
  | [.inr (.inr (4, x0)), .inl x1] => f_X4_type N x0 x1 μ
  | _ => none
theorem g_X4_type_i {N : Nat} {as : List ZV} {μ : ZM} {r : Int32 × ZM} (h : g_X4_type N as μ = some r) : ∃ (x0 : Nat) (x1 : Int32), as = [.inr (.inr (4, x0)), .inl x1] ∧ f_X4_type N x0 x1 μ = some r := by
  unfold g_X4_type at h
  split at h
  · exact ⟨_, _, rfl, h⟩
  · cases h
set_option maxRecDepth 100000 in
theorem c_X4_type (N : Nat) : zk_C yX4_type cX4_type 2 (some .int) ({ frames := 1, cells := 0, slots := 0, locals := 22 } : Room) zq_I (g_X4_type N) := by
  refine zk_met ?κ (by decide +kernel) ?hG ?body
  case body =>
    intro X E C
    have C : zk_X X E RX4 cX4_type 2 (some .int) ({ frames := 1, cells := 0, slots := 0, locals := 22 } : Room) := C
    have h36 := zs_iret C dX4_type_36
    have h33 := zs_vI C dX4_type_33 (m_X2_write N) zw_222 ⟨Nat.le_of_ble_eq_true rfl, Nat.le_of_ble_eq_true rfl⟩ h36
    have h32 := zs_iload_n (i := 1) C dX4_type_32 rfl h33
    have h29 := zs_gR C dX4_type_29 zf_4_4 zw_149 h32
    have h28 := zs_aload_n (i := 0) C dX4_type_28 rfl h29
    have h27 := zs_iret C dX4_type_27
    have h25 := zs_bipush (v := (-3)) C dX4_type_25 (by decide) h27
    have h22 := zs_icmp_lt (tgt := 28) C dX4_type_22 (by decide) h28 h25
    have h20 := zs_bipush (v := 80) C dX4_type_20 (by decide) h22
    have h17 := zs_gI C dX4_type_17 zf_2_1 zw_111 h20
    have h14 := zs_gR C dX4_type_14 zf_4_4 zw_149 h17
    have h13 := zs_aload_n (i := 0) C dX4_type_13 rfl h14
    have h12 := zs_iret C dX4_type_12
    have h11 := zs_iconst (v := (-1)) C dX4_type_11 (by decide) h12
    have h8 := zs_if_ne (tgt := 13) C dX4_type_8 (by decide) h13 h11
    have h5 := zs_sI C dX4_type_5 (m_X4_within N) zw_174 ⟨Nat.le_of_ble_eq_true rfl, Nat.le_of_ble_eq_true rfl⟩ h8
    have h3 := zs_bipush (v := 126) C dX4_type_3 (by decide) h5
    have h1 := zs_bipush (v := 32) C dX4_type_1 (by decide) h3
    have h0 := zs_iload_n (i := 1) C dX4_type_0 rfl h1
    exact h0
  case hG =>
    intro as μ r h
    obtain ⟨x0, x1, rfl, h⟩ := g_X4_type_i h
    exact ⟨Nat.le_of_ble_eq_true rfl, h⟩
theorem m_X4_type (N : Nat) : zk_MV yX4_type cX4_type 2 (some .int) ({ frames := 1, cells := 0, slots := 0, locals := 22 } : Room) zq_I (g_X4_type N) 1 4 := ⟨c_X4_type N, zw_221, zw_219, zw_220, zw_26, rfl, rfl, by decide +kernel, by decide, ⟨TX4, 8, rfl⟩, fun as μ r h => by obtain ⟨x0, x1, rfl, -⟩ := g_X4_type_i h; exact ⟨_, _, rfl⟩⟩
-- LongestWed.town()I
def f_X4_town (N : Nat) (x0 : Nat) (μ : ZM) : Option (Int32 × ZM) :=
  (f_X3_empty N (x0 + 98) μ).bind fun r1 =>
  (f_X2_readTown N (x0 + 95) (x0 + 98) r1).bind fun r2 =>
  let μ3 := zk_si r2.2 (x0 + 95) 1 0
  if ¬ r2.1 = 0 then
    let μ4 := zk_si μ3 (x0 + 98) 7 (μ3.1 (x0 + 1) 7)
    (f_X3_become N (x0 + 1) (x0 + 98) μ4).bind fun r5 =>
    (f_X0_forget N (x0 + 6) r5).bind fun r6 =>
    some ((r6.1 (x0 + 1) 4), r6)
  else
    some (((-20) - (μ3.1 (x0 + 95) 3)), μ3)
def g_X4_town (N : Nat) (as : List ZV) (μ : ZM) : Option (Int32 × ZM) := match as with
  | [.inr (.inr (4, x0))] => f_X4_town N x0 μ
  | _ => none
theorem g_X4_town_i {N : Nat} {as : List ZV} {μ : ZM} {r : Int32 × ZM} (h : g_X4_town N as μ = some r) : ∃ (x0 : Nat), as = [.inr (.inr (4, x0))] ∧ f_X4_town N x0 μ = some r := by
  unfold g_X4_town at h
  split at h
  · exact ⟨_, rfl, h⟩
  · cases h
set_option maxRecDepth 100000 in
theorem c_X4_town (N : Nat) : zk_C yX4_town cX4_town 2 (some .int) ({ frames := 5, cells := 0, slots := 0, locals := 112 } : Room) zq_I (g_X4_town N) := by
  refine zk_met ?κ (by decide +kernel) ?hG ?body
  case body =>
    intro X E C
    have C : zk_X X E RX4 cX4_town 2 (some .int) ({ frames := 5, cells := 0, slots := 0, locals := 112 } : Room) := C
    have h81 := zs_iret C dX4_town_81
    have h78 := zs_gI C dX4_town_78 zf_3_4 zw_58 h81
    have h75 := zs_gR C dX4_town_75 zf_4_0 zw_145 h78
    have h74 := zs_aload_n (i := 0) C dX4_town_74 rfl h75
    have h71 := zs_vV C dX4_town_71 (m_X0_forget N) zw_177 ⟨Nat.le_of_ble_eq_true rfl, Nat.le_of_ble_eq_true rfl⟩ h74
    have h68 := zs_gR C dX4_town_68 zf_4_1 zw_146 h71
    have h67 := zs_aload_n (i := 0) C dX4_town_67 rfl h68
    have h64 := zs_vV C dX4_town_64 (m_X3_become N) zw_269 ⟨Nat.le_of_ble_eq_true rfl, Nat.le_of_ble_eq_true rfl⟩ h67
    have h61 := zs_gR C dX4_town_61 zf_4_6 zw_151 h64
    have h60 := zs_aload_n (i := 0) C dX4_town_60 rfl h61
    have h57 := zs_gR C dX4_town_57 zf_4_0 zw_145 h60
    have h56 := zs_aload_n (i := 0) C dX4_town_56 rfl h57
    have h53 := zs_pI C dX4_town_53 zf_3_7 zw_64 rfl (by decide +kernel) h56
    have h50 := zs_gI C dX4_town_50 zf_3_7 zw_64 h53
    have h47 := zs_gR C dX4_town_47 zf_4_0 zw_145 h50
    have h46 := zs_aload_n (i := 0) C dX4_town_46 rfl h47
    have h43 := zs_gR C dX4_town_43 zf_4_6 zw_151 h46
    have h42 := zs_aload_n (i := 0) C dX4_town_42 rfl h43
    have h41 := zs_iret C dX4_town_41
    have h40 := zs_isub C dX4_town_40 h41
    have h37 := zs_gI C dX4_town_37 zf_2_3 zw_114 h40
    have h34 := zs_gR C dX4_town_34 zf_4_4 zw_149 h37
    have h33 := zs_aload_n (i := 0) C dX4_town_33 rfl h34
    have h31 := zs_bipush (v := (-20)) C dX4_town_31 (by decide) h33
    have h28 := zs_if_ne (tgt := 42) C dX4_town_28 (by decide) h42 h31
    have h27 := zs_iload_n (i := 1) C dX4_town_27 rfl h28
    have h24 := zs_pI C dX4_town_24 zf_2_1 zw_111 rfl (by decide +kernel) h27
    have h23 := zs_iconst (v := 0) C dX4_town_23 (by decide) h24
    have h20 := zs_gR C dX4_town_20 zf_4_4 zw_149 h23
    have h19 := zs_aload_n (i := 0) C dX4_town_19 rfl h20
    have h18 := zs_istore_n (i := 1) C dX4_town_18 rfl h19
    have h15 := zs_vI C dX4_town_15 (m_X2_readTown N) zw_234 ⟨Nat.le_of_ble_eq_true rfl, Nat.le_of_ble_eq_true rfl⟩ h18
    have h12 := zs_gR C dX4_town_12 zf_4_6 zw_151 h15
    have h11 := zs_aload_n (i := 0) C dX4_town_11 rfl h12
    have h8 := zs_gR C dX4_town_8 zf_4_4 zw_149 h11
    have h7 := zs_aload_n (i := 0) C dX4_town_7 rfl h8
    have h4 := zs_vV C dX4_town_4 (m_X3_empty N) zw_230 ⟨Nat.le_of_ble_eq_true rfl, Nat.le_of_ble_eq_true rfl⟩ h7
    have h1 := zs_gR C dX4_town_1 zf_4_6 zw_151 h4
    have h0 := zs_aload_n (i := 0) C dX4_town_0 rfl h1
    exact h0
  case hG =>
    intro as μ r h
    obtain ⟨x0, rfl, h⟩ := g_X4_town_i h
    exact ⟨Nat.le_of_ble_eq_true rfl, h⟩
theorem m_X4_town (N : Nat) : zk_MV yX4_town cX4_town 2 (some .int) ({ frames := 5, cells := 0, slots := 0, locals := 112 } : Room) zq_I (g_X4_town N) 0 4 := ⟨c_X4_town N, zw_229, zw_227, zw_228, zw_26, rfl, rfl, by decide +kernel, by decide, ⟨TX4, 8, rfl⟩, fun as μ r h => by obtain ⟨x0, rfl, -⟩ := g_X4_town_i h; exact ⟨_, _, rfl⟩⟩
-- LongestWed.count(I)I
def f_X4_count (N : Nat) (x0 : Nat) (x1 : Int32) (μ : ZM) : Option (Int32 × ZM) :=
  if x1 = 0 then
    some ((μ.1 (x0 + 1) 4), μ)
  else
  if x1 = 1 then
    some ((μ.1 (x0 + 1) 6), μ)
  else
  if x1 = 2 then
    (f_X3_keeper N (x0 + 1) μ).bind fun r1 =>
    some (r1.1, r1.2)
  else
  if x1 = 3 then
    (f_X3_keeper N (x0 + 1) μ).bind fun r2 =>
    (f_X3_secondTo N (x0 + 1) r2.1 r2.2).bind fun r3 =>
    some (r3.1, r3.2)
  else
  if x1 = 4 then
    some ((μ.1 (x0 + 1) 5), μ)
  else
  if x1 = 5 then
    (f_X3_allTempers N (x0 + 1) μ).bind fun r4 =>
    some (r4.1, r4.2)
  else
  if x1 = 6 then
    some ((μ.1 (x0 + 6) 2), μ)
  else
    some ((-1), μ)
def g_X4_count (N : Nat) (as : List ZV) (μ : ZM) : Option (Int32 × ZM) := match as with
  | [.inr (.inr (4, x0)), .inl x1] => f_X4_count N x0 x1 μ
  | _ => none
theorem g_X4_count_i {N : Nat} {as : List ZV} {μ : ZM} {r : Int32 × ZM} (h : g_X4_count N as μ = some r) : ∃ (x0 : Nat) (x1 : Int32), as = [.inr (.inr (4, x0)), .inl x1] ∧ f_X4_count N x0 x1 μ = some r := by
  unfold g_X4_count at h
  split at h
  · exact ⟨_, _, rfl, h⟩
  · cases h
set_option maxRecDepth 100000 in
theorem c_X4_count (N : Nat) : zk_C yX4_count cX4_count 2 (some .int) ({ frames := 2, cells := 0, slots := 0, locals := 44 } : Room) zq_I (g_X4_count N) := by
  refine zk_met ?κ (by decide +kernel) ?hG ?body
  case body =>
    intro X E C
    have C : zk_X X E RX4 cX4_count 2 (some .int) ({ frames := 2, cells := 0, slots := 0, locals := 44 } : Room) := C
    have h108 := zs_iret C dX4_count_108
    have h107 := zs_iconst (v := (-1)) C dX4_count_107 (by decide) h108
    have h106 := zs_iret C dX4_count_106
    have h103 := zs_gI C dX4_count_103 zf_0_2 zw_95 h106
    have h100 := zs_gR C dX4_count_100 zf_4_1 zw_146 h103
    have h99 := zs_aload_n (i := 0) C dX4_count_99 rfl h100
    have h98 := zs_iret C dX4_count_98
    have h95 := zs_vI C dX4_count_95 (m_X3_allTempers N) zw_282 ⟨Nat.le_of_ble_eq_true rfl, Nat.le_of_ble_eq_true rfl⟩ h98
    have h92 := zs_gR C dX4_count_92 zf_4_0 zw_145 h95
    have h91 := zs_aload_n (i := 0) C dX4_count_91 rfl h92
    have h90 := zs_iret C dX4_count_90
    have h87 := zs_gI C dX4_count_87 zf_3_5 zw_60 h90
    have h84 := zs_gR C dX4_count_84 zf_4_0 zw_145 h87
    have h83 := zs_aload_n (i := 0) C dX4_count_83 rfl h84
    have h82 := zs_iret C dX4_count_82
    have h79 := zs_vI C dX4_count_79 (m_X3_secondTo N) zw_281 ⟨Nat.le_of_ble_eq_true rfl, Nat.le_of_ble_eq_true rfl⟩ h82
    have h76 := zs_vI C dX4_count_76 (m_X3_keeper N) zw_280 ⟨Nat.le_of_ble_eq_true rfl, Nat.le_of_ble_eq_true rfl⟩ h79
    have h73 := zs_gR C dX4_count_73 zf_4_0 zw_145 h76
    have h72 := zs_aload_n (i := 0) C dX4_count_72 rfl h73
    have h69 := zs_gR C dX4_count_69 zf_4_0 zw_145 h72
    have h68 := zs_aload_n (i := 0) C dX4_count_68 rfl h69
    have h67 := zs_iret C dX4_count_67
    have h64 := zs_vI C dX4_count_64 (m_X3_keeper N) zw_280 ⟨Nat.le_of_ble_eq_true rfl, Nat.le_of_ble_eq_true rfl⟩ h67
    have h61 := zs_gR C dX4_count_61 zf_4_0 zw_145 h64
    have h60 := zs_aload_n (i := 0) C dX4_count_60 rfl h61
    have h59 := zs_iret C dX4_count_59
    have h56 := zs_gI C dX4_count_56 zf_3_6 zw_62 h59
    have h53 := zs_gR C dX4_count_53 zf_4_0 zw_145 h56
    have h52 := zs_aload_n (i := 0) C dX4_count_52 rfl h53
    have h51 := zs_iret C dX4_count_51
    have h48 := zs_gI C dX4_count_48 zf_3_4 zw_58 h51
    have h45 := zs_gR C dX4_count_45 zf_4_0 zw_145 h48
    have h44 := zs_aload_n (i := 0) C dX4_count_44 rfl h45
    have h1 := zs_tab (q := zq_I) (cs := [(0, _), (1, _), (2, _), (3, _), (4, _), (5, _), (6, _)]) (xs := [0, 1, 2, 3, 4, 5, 6]) (tg := (fun x => if x = 0 then 44 else if x = 1 then 52 else if x = 2 then 60 else if x = 3 then 68 else if x = 4 then 83 else if x = 5 then 91 else if x = 6 then 99 else 0)) (tgt := 107) C dX4_count_1 (by decide) (by decide) rfl (by decide +kernel) (by decide +kernel) (List.forall_mem_cons.mpr ⟨h44, (List.forall_mem_cons.mpr ⟨h52, (List.forall_mem_cons.mpr ⟨h60, (List.forall_mem_cons.mpr ⟨h68, (List.forall_mem_cons.mpr ⟨h83, (List.forall_mem_cons.mpr ⟨h91, (List.forall_mem_cons.mpr ⟨h99, (fun _ h => absurd h List.not_mem_nil)⟩)⟩)⟩)⟩)⟩)⟩)⟩) h107
    have h0 := zs_iload_n (i := 1) C dX4_count_0 rfl h1
    exact h0
  case hG =>
    intro as μ r h
    obtain ⟨x0, x1, rfl, h⟩ := g_X4_count_i h
    exact ⟨Nat.le_of_ble_eq_true rfl, h⟩
theorem m_X4_count (N : Nat) : zk_MV yX4_count cX4_count 2 (some .int) ({ frames := 2, cells := 0, slots := 0, locals := 44 } : Room) zq_I (g_X4_count N) 1 4 := ⟨c_X4_count N, zw_279, zw_277, zw_278, zw_26, rfl, rfl, by decide +kernel, by decide, ⟨TX4, 8, rfl⟩, fun as μ r h => by obtain ⟨x0, x1, rfl, -⟩ := g_X4_count_i h; exact ⟨_, _, rfl⟩⟩
-- LongestWed.years(I)I
def f_X4_years_L32 (N : Nat) : Nat → Nat → Int32 → Int32 → ZM → Option (Int32 × ZM)
  | 0, _, _, _, _ => none
  | n + 1, x0, x1, x2, μ =>
    if x1 ≤ x2 then
      (f_X3_keeper N (x0 + 1) μ).bind fun r1 =>
      some (r1.1, r1.2)
    else
      (f_X0_note N (x0 + 6) (x0 + 1) μ).bind fun r2 =>
      (f_X3_passYear N (x0 + 1) r2).bind fun r3 =>
      f_X4_years_L32 N n x0 x1 (x2 + 1) r3
def k_X4_years_L32 (N n : Nat) : ZK (Int32 × ZM) := fun L st μ => match L, st with
  | [some (.inr (.inr (4, x0))), some (.inl x1), some (.inl x2)], [] => f_X4_years_L32 N n x0 x1 x2 μ
  | _, _ => none
theorem k_X4_years_L32_i {N : Nat} {n : Nat} {L : ZL} {st : List ZV} {μ : ZM} {r : Int32 × ZM} (h : k_X4_years_L32 N n L st μ = some r) : ∃ (x0 : Nat) (x1 : Int32) (x2 : Int32), L = [some (.inr (.inr (4, x0))), some (.inl x1), some (.inl x2)] ∧ st = [] ∧ f_X4_years_L32 N n x0 x1 x2 μ = some r := by
  unfold k_X4_years_L32 at h
  split at h
  · exact ⟨_, _, _, rfl, rfl, h⟩
  · cases h
set_option maxRecDepth 100000 in
theorem s_X4_years_L32 (N : Nat) {X : ZX} {E : ZE} (C : zk_X X E RX4 cX4_years 3 (some .int) ({ frames := 3, cells := 0, slots := 0, locals := 68 } : Room)) : ∀ n, zk_S X E 3 zq_I 32 (k_X4_years_L32 N n) := by
  intro n
  induction n with
  | zero =>
    intro H locs ls L st μ r h hL hst hW hS
    obtain ⟨x0, x1, x2, rfl, rfl, h⟩ := k_X4_years_L32_i h
    exact nomatch (show none = some r from h)
  | succ n ih =>
    have h68 := zs_iret C dX4_years_68
    have h65 := zs_vI C dX4_years_65 (m_X3_keeper N) zw_280 ⟨Nat.le_of_ble_eq_true rfl, Nat.le_of_ble_eq_true rfl⟩ h68
    have h62 := zs_gR C dX4_years_62 zf_4_0 zw_145 h65
    have h61 := zs_aload_n (i := 0) C dX4_years_61 rfl h62
    have h58 := zs_goto (tgt := 32) C dX4_years_58 (by decide) ih
    have h55 := zs_iinc (n := 1) C dX4_years_55 (by decide) h58
    have h52 := zs_vV C dX4_years_52 (m_X3_passYear N) zw_298 ⟨Nat.le_of_ble_eq_true rfl, Nat.le_of_ble_eq_true rfl⟩ h55
    have h49 := zs_gR C dX4_years_49 zf_4_0 zw_145 h52
    have h48 := zs_aload_n (i := 0) C dX4_years_48 rfl h49
    have h45 := zs_vV C dX4_years_45 (m_X0_note N) zw_290 ⟨Nat.le_of_ble_eq_true rfl, Nat.le_of_ble_eq_true rfl⟩ h48
    have h42 := zs_gR C dX4_years_42 zf_4_0 zw_145 h45
    have h41 := zs_aload_n (i := 0) C dX4_years_41 rfl h42
    have h38 := zs_gR C dX4_years_38 zf_4_1 zw_146 h41
    have h37 := zs_aload_n (i := 0) C dX4_years_37 rfl h38
    have h34 := zs_icmp_ge (tgt := 61) C dX4_years_34 (by decide) h61 h37
    have h33 := zs_iload_n (i := 1) C dX4_years_33 rfl h34
    have h32 := zs_iload_n (i := 2) C dX4_years_32 rfl h33
    intro H locs ls L st μ r h hL hst hW hS
    obtain ⟨x0, x1, x2, rfl, rfl, h⟩ := k_X4_years_L32_i h
    exact h32 H locs ls [some (.inr (.inr (4, x0))), some (.inl x1), some (.inl x2)] [] μ r h (hL.less ⟨rfl, rfl, rfl, trivial⟩) hst hW hS
def f_X4_years (N : Nat) (x0 : Nat) (x1 : Int32) (μ : ZM) : Option (Int32 × ZM) :=
  (f_X4_within N x1 1 40 μ).bind fun r1 =>
  if ¬ r1.1 = 0 then
    if ((r1.2.1 (x0 + 1) 6) + x1) ≤ (9999 : Int32) then
      f_X4_years_L32 N N x0 x1 0 r1.2
    else
      some ((-3), r1.2)
  else
    some ((-1), r1.2)
def g_X4_years (N : Nat) (as : List ZV) (μ : ZM) : Option (Int32 × ZM) := match as with
  | [.inr (.inr (4, x0)), .inl x1] => f_X4_years N x0 x1 μ
  | _ => none
theorem g_X4_years_i {N : Nat} {as : List ZV} {μ : ZM} {r : Int32 × ZM} (h : g_X4_years N as μ = some r) : ∃ (x0 : Nat) (x1 : Int32), as = [.inr (.inr (4, x0)), .inl x1] ∧ f_X4_years N x0 x1 μ = some r := by
  unfold g_X4_years at h
  split at h
  · exact ⟨_, _, rfl, h⟩
  · cases h
set_option maxRecDepth 100000 in
theorem c_X4_years (N : Nat) : zk_C yX4_years cX4_years 3 (some .int) ({ frames := 3, cells := 0, slots := 0, locals := 68 } : Room) zq_I (g_X4_years N) := by
  refine zk_met ?κ (by decide +kernel) ?hG ?body
  case body =>
    intro X E C
    have C : zk_X X E RX4 cX4_years 3 (some .int) ({ frames := 3, cells := 0, slots := 0, locals := 68 } : Room) := C
    have e32 := s_X4_years_L32 N C N
    have h31 := zs_istore_n (i := 2) C dX4_years_31 rfl e32
    have h30 := zs_iconst (v := 0) C dX4_years_30 (by decide) h31
    have h29 := zs_iret C dX4_years_29
    have h27 := zs_bipush (v := (-3)) C dX4_years_27 (by decide) h29
    have h24 := zs_icmp_le (tgt := 30) C dX4_years_24 (by decide) h30 h27
    have h21 := zs_sipush (v := 9999) C dX4_years_21 (by decide) h24
    have h20 := zs_iadd C dX4_years_20 h21
    have h19 := zs_iload_n (i := 1) C dX4_years_19 rfl h20
    have h16 := zs_gI C dX4_years_16 zf_3_6 zw_62 h19
    have h13 := zs_gR C dX4_years_13 zf_4_0 zw_145 h16
    have h12 := zs_aload_n (i := 0) C dX4_years_12 rfl h13
    have h11 := zs_iret C dX4_years_11
    have h10 := zs_iconst (v := (-1)) C dX4_years_10 (by decide) h11
    have h7 := zs_if_ne (tgt := 12) C dX4_years_7 (by decide) h12 h10
    have h4 := zs_sI C dX4_years_4 (m_X4_within N) zw_174 ⟨Nat.le_of_ble_eq_true rfl, Nat.le_of_ble_eq_true rfl⟩ h7
    have h2 := zs_bipush (v := 40) C dX4_years_2 (by decide) h4
    have h1 := zs_iconst (v := 1) C dX4_years_1 (by decide) h2
    have h0 := zs_iload_n (i := 1) C dX4_years_0 rfl h1
    exact h0
  case hG =>
    intro as μ r h
    obtain ⟨x0, x1, rfl, h⟩ := g_X4_years_i h
    exact ⟨Nat.le_of_ble_eq_true rfl, h⟩
theorem m_X4_years (N : Nat) : zk_MV yX4_years cX4_years 3 (some .int) ({ frames := 3, cells := 0, slots := 0, locals := 68 } : Room) zq_I (g_X4_years N) 1 4 := ⟨c_X4_years N, zw_289, zw_287, zw_288, zw_26, rfl, rfl, by decide +kernel, by decide, ⟨TX4, 8, rfl⟩, fun as μ r h => by obtain ⟨x0, x1, rfl, -⟩ := g_X4_years_i h; exact ⟨_, _, rfl⟩⟩
-- LongestWed.nurse(II)I
def f_X4_nurse (N : Nat) (x0 : Nat) (x1 : Int32) (x2 : Int32) (μ : ZM) : Option (Int32 × ZM) :=
  (f_X4_isCouple N x0 x1 μ).bind fun r1 =>
  if r1.1 = 0 then
    some ((-1), r1.2)
  else
    (f_X4_within N x2 1 19 r1.2).bind fun r2 =>
    if ¬ r2.1 = 0 then
      (f_X3_isTogether N (x0 + 1) x1 r2.2).bind fun r3 =>
      if r3.1 = 0 then
        some ((-2), r3.2)
      else
        if zk_o x1 7 = true then none else
        if ¬ (r3.2.1 ((x0 + 1) + 4) (Int32.toNatClampNeg x1)) = 0 then
          (f_X0_note N (x0 + 6) (x0 + 1) r3.2).bind fun r4 =>
          (f_X3_better N (x0 + 1) x1 x2 r4).bind fun r5 =>
          if zk_o x1 7 = true then none else
          some ((r5.1 ((x0 + 1) + 4) (Int32.toNatClampNeg x1)), r5)
        else
          some ((-2), r3.2)
    else
      some ((-1), r2.2)
def g_X4_nurse (N : Nat) (as : List ZV) (μ : ZM) : Option (Int32 × ZM) := match as with
  | [.inr (.inr (4, x0)), .inl x1, .inl x2] => f_X4_nurse N x0 x1 x2 μ
  | _ => none
theorem g_X4_nurse_i {N : Nat} {as : List ZV} {μ : ZM} {r : Int32 × ZM} (h : g_X4_nurse N as μ = some r) : ∃ (x0 : Nat) (x1 : Int32) (x2 : Int32), as = [.inr (.inr (4, x0)), .inl x1, .inl x2] ∧ f_X4_nurse N x0 x1 x2 μ = some r := by
  unfold g_X4_nurse at h
  split at h
  · exact ⟨_, _, _, rfl, h⟩
  · cases h
set_option maxRecDepth 100000 in
theorem c_X4_nurse (N : Nat) : zk_C yX4_nurse cX4_nurse 3 (some .int) ({ frames := 3, cells := 0, slots := 0, locals := 68 } : Room) zq_I (g_X4_nurse N) := by
  refine zk_met ?κ (by decide +kernel) ?hG ?body
  case body =>
    intro X E C
    have C : zk_X X E RX4 cX4_nurse 3 (some .int) ({ frames := 3, cells := 0, slots := 0, locals := 68 } : Room) := C
    have h75 := zs_iret C dX4_nurse_75
    have h74 := zs_iald (n := 7) C dX4_nurse_74 (by decide) h75
    have h73 := zs_iload_n (i := 1) C dX4_nurse_73 rfl h74
    have h70 := zs_gR C dX4_nurse_70 zf_3_3 zw_56 h73
    have h67 := zs_gR C dX4_nurse_67 zf_4_0 zw_145 h70
    have h66 := zs_aload_n (i := 0) C dX4_nurse_66 rfl h67
    have h63 := zs_vV C dX4_nurse_63 (m_X3_better N) zw_314 ⟨Nat.le_of_ble_eq_true rfl, Nat.le_of_ble_eq_true rfl⟩ h66
    have h62 := zs_iload_n (i := 2) C dX4_nurse_62 rfl h63
    have h61 := zs_iload_n (i := 1) C dX4_nurse_61 rfl h62
    have h58 := zs_gR C dX4_nurse_58 zf_4_0 zw_145 h61
    have h57 := zs_aload_n (i := 0) C dX4_nurse_57 rfl h58
    have h54 := zs_vV C dX4_nurse_54 (m_X0_note N) zw_290 ⟨Nat.le_of_ble_eq_true rfl, Nat.le_of_ble_eq_true rfl⟩ h57
    have h51 := zs_gR C dX4_nurse_51 zf_4_0 zw_145 h54
    have h50 := zs_aload_n (i := 0) C dX4_nurse_50 rfl h51
    have h47 := zs_gR C dX4_nurse_47 zf_4_1 zw_146 h50
    have h46 := zs_aload_n (i := 0) C dX4_nurse_46 rfl h47
    have h45 := zs_iret C dX4_nurse_45
    have h43 := zs_bipush (v := (-2)) C dX4_nurse_43 (by decide) h45
    have h40 := zs_if_ne (tgt := 46) C dX4_nurse_40 (by decide) h46 h43
    have h39 := zs_iald (n := 7) C dX4_nurse_39 (by decide) h40
    have h38 := zs_iload_n (i := 1) C dX4_nurse_38 rfl h39
    have h35 := zs_gR C dX4_nurse_35 zf_3_3 zw_56 h38
    have h32 := zs_gR C dX4_nurse_32 zf_4_0 zw_145 h35
    have h31 := zs_aload_n (i := 0) C dX4_nurse_31 rfl h32
    have h28 := zs_if_eq (tgt := 43) C dX4_nurse_28 (by decide) h43 h31
    have h25 := zs_vI C dX4_nurse_25 (m_X3_isTogether N) zw_193 ⟨Nat.le_of_ble_eq_true rfl, Nat.le_of_ble_eq_true rfl⟩ h28
    have h24 := zs_iload_n (i := 1) C dX4_nurse_24 rfl h25
    have h21 := zs_gR C dX4_nurse_21 zf_4_0 zw_145 h24
    have h20 := zs_aload_n (i := 0) C dX4_nurse_20 rfl h21
    have h19 := zs_iret C dX4_nurse_19
    have h18 := zs_iconst (v := (-1)) C dX4_nurse_18 (by decide) h19
    have h15 := zs_if_ne (tgt := 20) C dX4_nurse_15 (by decide) h20 h18
    have h12 := zs_sI C dX4_nurse_12 (m_X4_within N) zw_174 ⟨Nat.le_of_ble_eq_true rfl, Nat.le_of_ble_eq_true rfl⟩ h15
    have h10 := zs_bipush (v := 19) C dX4_nurse_10 (by decide) h12
    have h9 := zs_iconst (v := 1) C dX4_nurse_9 (by decide) h10
    have h8 := zs_iload_n (i := 2) C dX4_nurse_8 rfl h9
    have h5 := zs_if_eq (tgt := 18) C dX4_nurse_5 (by decide) h18 h8
    have h2 := zs_vI C dX4_nurse_2 (m_X4_isCouple N) zw_189 ⟨Nat.le_of_ble_eq_true rfl, Nat.le_of_ble_eq_true rfl⟩ h5
    have h1 := zs_iload_n (i := 1) C dX4_nurse_1 rfl h2
    have h0 := zs_aload_n (i := 0) C dX4_nurse_0 rfl h1
    exact h0
  case hG =>
    intro as μ r h
    obtain ⟨x0, x1, x2, rfl, h⟩ := g_X4_nurse_i h
    exact ⟨Nat.le_of_ble_eq_true rfl, h⟩
theorem m_X4_nurse (N : Nat) : zk_MV yX4_nurse cX4_nurse 3 (some .int) ({ frames := 3, cells := 0, slots := 0, locals := 68 } : Room) zq_I (g_X4_nurse N) 2 4 := ⟨c_X4_nurse N, zw_313, zw_311, zw_312, zw_26, rfl, rfl, by decide +kernel, by decide, ⟨TX4, 8, rfl⟩, fun as μ r h => by obtain ⟨x0, x1, x2, rfl, -⟩ := g_X4_nurse_i h; exact ⟨_, _, rfl⟩⟩
-- LongestWed.stir(II)I
def f_X4_stir (N : Nat) (x0 : Nat) (x1 : Int32) (x2 : Int32) (μ : ZM) : Option (Int32 × ZM) :=
  (f_X4_isCouple N x0 x1 μ).bind fun r1 =>
  if r1.1 = 0 then
    some ((-1), r1.2)
  else
    (f_X4_within N x2 1 20 r1.2).bind fun r2 =>
    if ¬ r2.1 = 0 then
      (f_X3_isTogether N (x0 + 1) x1 r2.2).bind fun r3 =>
      if ¬ r3.1 = 0 then
        (f_X0_note N (x0 + 6) (x0 + 1) r3.2).bind fun r4 =>
        (f_X3_worsen N (x0 + 1) x1 x2 r4).bind fun r5 =>
        if zk_o x1 7 = true then none else
        some ((r5.1 ((x0 + 1) + 4) (Int32.toNatClampNeg x1)), r5)
      else
        some ((-2), r3.2)
    else
      some ((-1), r2.2)
def g_X4_stir (N : Nat) (as : List ZV) (μ : ZM) : Option (Int32 × ZM) := match as with
  | [.inr (.inr (4, x0)), .inl x1, .inl x2] => f_X4_stir N x0 x1 x2 μ
  | _ => none
theorem g_X4_stir_i {N : Nat} {as : List ZV} {μ : ZM} {r : Int32 × ZM} (h : g_X4_stir N as μ = some r) : ∃ (x0 : Nat) (x1 : Int32) (x2 : Int32), as = [.inr (.inr (4, x0)), .inl x1, .inl x2] ∧ f_X4_stir N x0 x1 x2 μ = some r := by
  unfold g_X4_stir at h
  split at h
  · exact ⟨_, _, _, rfl, h⟩
  · cases h
set_option maxRecDepth 100000 in
theorem c_X4_stir (N : Nat) : zk_C yX4_stir cX4_stir 3 (some .int) ({ frames := 3, cells := 0, slots := 0, locals := 68 } : Room) zq_I (g_X4_stir N) := by
  refine zk_met ?κ (by decide +kernel) ?hG ?body
  case body =>
    intro X E C
    have C : zk_X X E RX4 cX4_stir 3 (some .int) ({ frames := 3, cells := 0, slots := 0, locals := 68 } : Room) := C
    have h63 := zs_iret C dX4_stir_63
    have h62 := zs_iald (n := 7) C dX4_stir_62 (by decide) h63
    have h61 := zs_iload_n (i := 1) C dX4_stir_61 rfl h62
    have h58 := zs_gR C dX4_stir_58 zf_3_3 zw_56 h61
    have h55 := zs_gR C dX4_stir_55 zf_4_0 zw_145 h58
    have h54 := zs_aload_n (i := 0) C dX4_stir_54 rfl h55
    have h51 := zs_vV C dX4_stir_51 (m_X3_worsen N) zw_322 ⟨Nat.le_of_ble_eq_true rfl, Nat.le_of_ble_eq_true rfl⟩ h54
    have h50 := zs_iload_n (i := 2) C dX4_stir_50 rfl h51
    have h49 := zs_iload_n (i := 1) C dX4_stir_49 rfl h50
    have h46 := zs_gR C dX4_stir_46 zf_4_0 zw_145 h49
    have h45 := zs_aload_n (i := 0) C dX4_stir_45 rfl h46
    have h42 := zs_vV C dX4_stir_42 (m_X0_note N) zw_290 ⟨Nat.le_of_ble_eq_true rfl, Nat.le_of_ble_eq_true rfl⟩ h45
    have h39 := zs_gR C dX4_stir_39 zf_4_0 zw_145 h42
    have h38 := zs_aload_n (i := 0) C dX4_stir_38 rfl h39
    have h35 := zs_gR C dX4_stir_35 zf_4_1 zw_146 h38
    have h34 := zs_aload_n (i := 0) C dX4_stir_34 rfl h35
    have h33 := zs_iret C dX4_stir_33
    have h31 := zs_bipush (v := (-2)) C dX4_stir_31 (by decide) h33
    have h28 := zs_if_ne (tgt := 34) C dX4_stir_28 (by decide) h34 h31
    have h25 := zs_vI C dX4_stir_25 (m_X3_isTogether N) zw_193 ⟨Nat.le_of_ble_eq_true rfl, Nat.le_of_ble_eq_true rfl⟩ h28
    have h24 := zs_iload_n (i := 1) C dX4_stir_24 rfl h25
    have h21 := zs_gR C dX4_stir_21 zf_4_0 zw_145 h24
    have h20 := zs_aload_n (i := 0) C dX4_stir_20 rfl h21
    have h19 := zs_iret C dX4_stir_19
    have h18 := zs_iconst (v := (-1)) C dX4_stir_18 (by decide) h19
    have h15 := zs_if_ne (tgt := 20) C dX4_stir_15 (by decide) h20 h18
    have h12 := zs_sI C dX4_stir_12 (m_X4_within N) zw_174 ⟨Nat.le_of_ble_eq_true rfl, Nat.le_of_ble_eq_true rfl⟩ h15
    have h10 := zs_bipush (v := 20) C dX4_stir_10 (by decide) h12
    have h9 := zs_iconst (v := 1) C dX4_stir_9 (by decide) h10
    have h8 := zs_iload_n (i := 2) C dX4_stir_8 rfl h9
    have h5 := zs_if_eq (tgt := 18) C dX4_stir_5 (by decide) h18 h8
    have h2 := zs_vI C dX4_stir_2 (m_X4_isCouple N) zw_189 ⟨Nat.le_of_ble_eq_true rfl, Nat.le_of_ble_eq_true rfl⟩ h5
    have h1 := zs_iload_n (i := 1) C dX4_stir_1 rfl h2
    have h0 := zs_aload_n (i := 0) C dX4_stir_0 rfl h1
    exact h0
  case hG =>
    intro as μ r h
    obtain ⟨x0, x1, x2, rfl, h⟩ := g_X4_stir_i h
    exact ⟨Nat.le_of_ble_eq_true rfl, h⟩
theorem m_X4_stir (N : Nat) : zk_MV yX4_stir cX4_stir 3 (some .int) ({ frames := 3, cells := 0, slots := 0, locals := 68 } : Room) zq_I (g_X4_stir N) 2 4 := ⟨c_X4_stir N, zw_321, zw_319, zw_320, zw_26, rfl, rfl, by decide +kernel, by decide, ⟨TX4, 8, rfl⟩, fun as μ r h => by obtain ⟨x0, x1, x2, rfl, -⟩ := g_X4_stir_i h; exact ⟨_, _, rfl⟩⟩
-- LongestWed.wed(I)I
def f_X4_wed (N : Nat) (x0 : Nat) (x1 : Int32) (μ : ZM) : Option (Int32 × ZM) :=
  (f_X4_isCouple N x0 x1 μ).bind fun r1 =>
  if ¬ r1.1 = 0 then
    (f_X3_isTogether N (x0 + 1) x1 r1.2).bind fun r2 =>
    if r2.1 = 0 then
      (f_X0_note N (x0 + 6) (x0 + 1) r2.2).bind fun r3 =>
      (f_X3_wedAnew N (x0 + 1) x1 r3).bind fun r4 =>
      (f_X3_keeper N (x0 + 1) r4).bind fun r5 =>
      some (r5.1, r5.2)
    else
      some ((-2), r2.2)
  else
    some ((-1), r1.2)
def g_X4_wed (N : Nat) (as : List ZV) (μ : ZM) : Option (Int32 × ZM) := match as with
  | [.inr (.inr (4, x0)), .inl x1] => f_X4_wed N x0 x1 μ
  | _ => none
theorem g_X4_wed_i {N : Nat} {as : List ZV} {μ : ZM} {r : Int32 × ZM} (h : g_X4_wed N as μ = some r) : ∃ (x0 : Nat) (x1 : Int32), as = [.inr (.inr (4, x0)), .inl x1] ∧ f_X4_wed N x0 x1 μ = some r := by
  unfold g_X4_wed at h
  split at h
  · exact ⟨_, _, rfl, h⟩
  · cases h
set_option maxRecDepth 100000 in
theorem c_X4_wed (N : Nat) : zk_C yX4_wed cX4_wed 2 (some .int) ({ frames := 3, cells := 0, slots := 0, locals := 68 } : Room) zq_I (g_X4_wed N) := by
  refine zk_met ?κ (by decide +kernel) ?hG ?body
  case body =>
    intro X E C
    have C : zk_X X E RX4 cX4_wed 2 (some .int) ({ frames := 3, cells := 0, slots := 0, locals := 68 } : Room) := C
    have h50 := zs_iret C dX4_wed_50
    have h47 := zs_vI C dX4_wed_47 (m_X3_keeper N) zw_280 ⟨Nat.le_of_ble_eq_true rfl, Nat.le_of_ble_eq_true rfl⟩ h50
    have h44 := zs_gR C dX4_wed_44 zf_4_0 zw_145 h47
    have h43 := zs_aload_n (i := 0) C dX4_wed_43 rfl h44
    have h40 := zs_vV C dX4_wed_40 (m_X3_wedAnew N) zw_327 ⟨Nat.le_of_ble_eq_true rfl, Nat.le_of_ble_eq_true rfl⟩ h43
    have h39 := zs_iload_n (i := 1) C dX4_wed_39 rfl h40
    have h36 := zs_gR C dX4_wed_36 zf_4_0 zw_145 h39
    have h35 := zs_aload_n (i := 0) C dX4_wed_35 rfl h36
    have h32 := zs_vV C dX4_wed_32 (m_X0_note N) zw_290 ⟨Nat.le_of_ble_eq_true rfl, Nat.le_of_ble_eq_true rfl⟩ h35
    have h29 := zs_gR C dX4_wed_29 zf_4_0 zw_145 h32
    have h28 := zs_aload_n (i := 0) C dX4_wed_28 rfl h29
    have h25 := zs_gR C dX4_wed_25 zf_4_1 zw_146 h28
    have h24 := zs_aload_n (i := 0) C dX4_wed_24 rfl h25
    have h23 := zs_iret C dX4_wed_23
    have h21 := zs_bipush (v := (-2)) C dX4_wed_21 (by decide) h23
    have h18 := zs_if_eq (tgt := 24) C dX4_wed_18 (by decide) h24 h21
    have h15 := zs_vI C dX4_wed_15 (m_X3_isTogether N) zw_193 ⟨Nat.le_of_ble_eq_true rfl, Nat.le_of_ble_eq_true rfl⟩ h18
    have h14 := zs_iload_n (i := 1) C dX4_wed_14 rfl h15
    have h11 := zs_gR C dX4_wed_11 zf_4_0 zw_145 h14
    have h10 := zs_aload_n (i := 0) C dX4_wed_10 rfl h11
    have h9 := zs_iret C dX4_wed_9
    have h8 := zs_iconst (v := (-1)) C dX4_wed_8 (by decide) h9
    have h5 := zs_if_ne (tgt := 10) C dX4_wed_5 (by decide) h10 h8
    have h2 := zs_vI C dX4_wed_2 (m_X4_isCouple N) zw_189 ⟨Nat.le_of_ble_eq_true rfl, Nat.le_of_ble_eq_true rfl⟩ h5
    have h1 := zs_iload_n (i := 1) C dX4_wed_1 rfl h2
    have h0 := zs_aload_n (i := 0) C dX4_wed_0 rfl h1
    exact h0
  case hG =>
    intro as μ r h
    obtain ⟨x0, x1, rfl, h⟩ := g_X4_wed_i h
    exact ⟨Nat.le_of_ble_eq_true rfl, h⟩
theorem m_X4_wed (N : Nat) : zk_MV yX4_wed cX4_wed 2 (some .int) ({ frames := 3, cells := 0, slots := 0, locals := 68 } : Room) zq_I (g_X4_wed N) 1 4 := ⟨c_X4_wed N, zw_326, zw_324, zw_325, zw_26, rfl, rfl, by decide +kernel, by decide, ⟨TX4, 8, rfl⟩, fun as μ r h => by obtain ⟨x0, x1, rfl, -⟩ := g_X4_wed_i h; exact ⟨_, _, rfl⟩⟩
-- LongestWed.drift(I)I
def f_X4_drift_L32 (N : Nat) : Nat → Nat → Int32 → Int32 → ZM → Option (Int32 × ZM)
  | 0, _, _, _, _ => none
  | n + 1, x0, x1, x2, μ =>
    if x1 ≤ x2 then
      (f_X3_keeper N (x0 + 1) μ).bind fun r1 =>
      some (r1.1, r1.2)
    else
      (f_X0_note N (x0 + 6) (x0 + 1) μ).bind fun r2 =>
      (f_X3_drawNext N (x0 + 1) r2).bind fun r3 =>
      (f_X3_passYear N (x0 + 1) r3).bind fun r4 =>
      f_X4_drift_L32 N n x0 x1 (x2 + 1) r4
def k_X4_drift_L32 (N n : Nat) : ZK (Int32 × ZM) := fun L st μ => match L, st with
  | [some (.inr (.inr (4, x0))), some (.inl x1), some (.inl x2)], [] => f_X4_drift_L32 N n x0 x1 x2 μ
  | _, _ => none
theorem k_X4_drift_L32_i {N : Nat} {n : Nat} {L : ZL} {st : List ZV} {μ : ZM} {r : Int32 × ZM} (h : k_X4_drift_L32 N n L st μ = some r) : ∃ (x0 : Nat) (x1 : Int32) (x2 : Int32), L = [some (.inr (.inr (4, x0))), some (.inl x1), some (.inl x2)] ∧ st = [] ∧ f_X4_drift_L32 N n x0 x1 x2 μ = some r := by
  unfold k_X4_drift_L32 at h
  split at h
  · exact ⟨_, _, _, rfl, rfl, h⟩
  · cases h
set_option maxRecDepth 100000 in
theorem s_X4_drift_L32 (N : Nat) {X : ZX} {E : ZE} (C : zk_X X E RX4 cX4_drift 3 (some .int) ({ frames := 3, cells := 0, slots := 0, locals := 68 } : Room)) : ∀ n, zk_S X E 3 zq_I 32 (k_X4_drift_L32 N n) := by
  intro n
  induction n with
  | zero =>
    intro H locs ls L st μ r h hL hst hW hS
    obtain ⟨x0, x1, x2, rfl, rfl, h⟩ := k_X4_drift_L32_i h
    exact nomatch (show none = some r from h)
  | succ n ih =>
    have h75 := zs_iret C dX4_drift_75
    have h72 := zs_vI C dX4_drift_72 (m_X3_keeper N) zw_280 ⟨Nat.le_of_ble_eq_true rfl, Nat.le_of_ble_eq_true rfl⟩ h75
    have h69 := zs_gR C dX4_drift_69 zf_4_0 zw_145 h72
    have h68 := zs_aload_n (i := 0) C dX4_drift_68 rfl h69
    have h65 := zs_goto (tgt := 32) C dX4_drift_65 (by decide) ih
    have h62 := zs_iinc (n := 1) C dX4_drift_62 (by decide) h65
    have h59 := zs_vV C dX4_drift_59 (m_X3_passYear N) zw_298 ⟨Nat.le_of_ble_eq_true rfl, Nat.le_of_ble_eq_true rfl⟩ h62
    have h56 := zs_gR C dX4_drift_56 zf_4_0 zw_145 h59
    have h55 := zs_aload_n (i := 0) C dX4_drift_55 rfl h56
    have h52 := zs_vV C dX4_drift_52 (m_X3_drawNext N) zw_335 ⟨Nat.le_of_ble_eq_true rfl, Nat.le_of_ble_eq_true rfl⟩ h55
    have h49 := zs_gR C dX4_drift_49 zf_4_0 zw_145 h52
    have h48 := zs_aload_n (i := 0) C dX4_drift_48 rfl h49
    have h45 := zs_vV C dX4_drift_45 (m_X0_note N) zw_290 ⟨Nat.le_of_ble_eq_true rfl, Nat.le_of_ble_eq_true rfl⟩ h48
    have h42 := zs_gR C dX4_drift_42 zf_4_0 zw_145 h45
    have h41 := zs_aload_n (i := 0) C dX4_drift_41 rfl h42
    have h38 := zs_gR C dX4_drift_38 zf_4_1 zw_146 h41
    have h37 := zs_aload_n (i := 0) C dX4_drift_37 rfl h38
    have h34 := zs_icmp_ge (tgt := 68) C dX4_drift_34 (by decide) h68 h37
    have h33 := zs_iload_n (i := 1) C dX4_drift_33 rfl h34
    have h32 := zs_iload_n (i := 2) C dX4_drift_32 rfl h33
    intro H locs ls L st μ r h hL hst hW hS
    obtain ⟨x0, x1, x2, rfl, rfl, h⟩ := k_X4_drift_L32_i h
    exact h32 H locs ls [some (.inr (.inr (4, x0))), some (.inl x1), some (.inl x2)] [] μ r h (hL.less ⟨rfl, rfl, rfl, trivial⟩) hst hW hS
def f_X4_drift (N : Nat) (x0 : Nat) (x1 : Int32) (μ : ZM) : Option (Int32 × ZM) :=
  (f_X4_within N x1 1 40 μ).bind fun r1 =>
  if ¬ r1.1 = 0 then
    if ((r1.2.1 (x0 + 1) 6) + x1) ≤ (9999 : Int32) then
      f_X4_drift_L32 N N x0 x1 0 r1.2
    else
      some ((-3), r1.2)
  else
    some ((-1), r1.2)
def g_X4_drift (N : Nat) (as : List ZV) (μ : ZM) : Option (Int32 × ZM) := match as with
  | [.inr (.inr (4, x0)), .inl x1] => f_X4_drift N x0 x1 μ
  | _ => none
theorem g_X4_drift_i {N : Nat} {as : List ZV} {μ : ZM} {r : Int32 × ZM} (h : g_X4_drift N as μ = some r) : ∃ (x0 : Nat) (x1 : Int32), as = [.inr (.inr (4, x0)), .inl x1] ∧ f_X4_drift N x0 x1 μ = some r := by
  unfold g_X4_drift at h
  split at h
  · exact ⟨_, _, rfl, h⟩
  · cases h
set_option maxRecDepth 100000 in
theorem c_X4_drift (N : Nat) : zk_C yX4_drift cX4_drift 3 (some .int) ({ frames := 3, cells := 0, slots := 0, locals := 68 } : Room) zq_I (g_X4_drift N) := by
  refine zk_met ?κ (by decide +kernel) ?hG ?body
  case body =>
    intro X E C
    have C : zk_X X E RX4 cX4_drift 3 (some .int) ({ frames := 3, cells := 0, slots := 0, locals := 68 } : Room) := C
    have e32 := s_X4_drift_L32 N C N
    have h31 := zs_istore_n (i := 2) C dX4_drift_31 rfl e32
    have h30 := zs_iconst (v := 0) C dX4_drift_30 (by decide) h31
    have h29 := zs_iret C dX4_drift_29
    have h27 := zs_bipush (v := (-3)) C dX4_drift_27 (by decide) h29
    have h24 := zs_icmp_le (tgt := 30) C dX4_drift_24 (by decide) h30 h27
    have h21 := zs_sipush (v := 9999) C dX4_drift_21 (by decide) h24
    have h20 := zs_iadd C dX4_drift_20 h21
    have h19 := zs_iload_n (i := 1) C dX4_drift_19 rfl h20
    have h16 := zs_gI C dX4_drift_16 zf_3_6 zw_62 h19
    have h13 := zs_gR C dX4_drift_13 zf_4_0 zw_145 h16
    have h12 := zs_aload_n (i := 0) C dX4_drift_12 rfl h13
    have h11 := zs_iret C dX4_drift_11
    have h10 := zs_iconst (v := (-1)) C dX4_drift_10 (by decide) h11
    have h7 := zs_if_ne (tgt := 12) C dX4_drift_7 (by decide) h12 h10
    have h4 := zs_sI C dX4_drift_4 (m_X4_within N) zw_174 ⟨Nat.le_of_ble_eq_true rfl, Nat.le_of_ble_eq_true rfl⟩ h7
    have h2 := zs_bipush (v := 40) C dX4_drift_2 (by decide) h4
    have h1 := zs_iconst (v := 1) C dX4_drift_1 (by decide) h2
    have h0 := zs_iload_n (i := 1) C dX4_drift_0 rfl h1
    exact h0
  case hG =>
    intro as μ r h
    obtain ⟨x0, x1, rfl, h⟩ := g_X4_drift_i h
    exact ⟨Nat.le_of_ble_eq_true rfl, h⟩
theorem m_X4_drift (N : Nat) : zk_MV yX4_drift cX4_drift 3 (some .int) ({ frames := 3, cells := 0, slots := 0, locals := 68 } : Room) zq_I (g_X4_drift N) 1 4 := ⟨c_X4_drift N, zw_334, zw_332, zw_333, zw_26, rfl, rfl, by decide +kernel, by decide, ⟨TX4, 8, rfl⟩, fun as μ r h => by obtain ⟨x0, x1, rfl, -⟩ := g_X4_drift_i h; exact ⟨_, _, rfl⟩⟩
-- LongestWed.undo()I
def f_X4_undo (N : Nat) (x0 : Nat) (μ : ZM) : Option (Int32 × ZM) :=
  if 0 < (μ.1 (x0 + 6) 2) then
    (f_X0_giveBack N (x0 + 6) (x0 + 1) μ).bind fun r1 =>
    some ((r1.1 (x0 + 6) 2), r1)
  else
    some ((-4), μ)
def g_X4_undo (N : Nat) (as : List ZV) (μ : ZM) : Option (Int32 × ZM) := match as with
  | [.inr (.inr (4, x0))] => f_X4_undo N x0 μ
  | _ => none
theorem g_X4_undo_i {N : Nat} {as : List ZV} {μ : ZM} {r : Int32 × ZM} (h : g_X4_undo N as μ = some r) : ∃ (x0 : Nat), as = [.inr (.inr (4, x0))] ∧ f_X4_undo N x0 μ = some r := by
  unfold g_X4_undo at h
  split at h
  · exact ⟨_, rfl, h⟩
  · cases h
set_option maxRecDepth 100000 in
theorem c_X4_undo (N : Nat) : zk_C yX4_undo cX4_undo 1 (some .int) ({ frames := 3, cells := 0, slots := 0, locals := 68 } : Room) zq_I (g_X4_undo N) := by
  refine zk_met ?κ (by decide +kernel) ?hG ?body
  case body =>
    intro X E C
    have C : zk_X X E RX4 cX4_undo 1 (some .int) ({ frames := 3, cells := 0, slots := 0, locals := 68 } : Room) := C
    have h31 := zs_iret C dX4_undo_31
    have h28 := zs_gI C dX4_undo_28 zf_0_2 zw_95 h31
    have h25 := zs_gR C dX4_undo_25 zf_4_1 zw_146 h28
    have h24 := zs_aload_n (i := 0) C dX4_undo_24 rfl h25
    have h21 := zs_vV C dX4_undo_21 (m_X0_giveBack N) zw_347 ⟨Nat.le_of_ble_eq_true rfl, Nat.le_of_ble_eq_true rfl⟩ h24
    have h18 := zs_gR C dX4_undo_18 zf_4_0 zw_145 h21
    have h17 := zs_aload_n (i := 0) C dX4_undo_17 rfl h18
    have h14 := zs_gR C dX4_undo_14 zf_4_1 zw_146 h17
    have h13 := zs_aload_n (i := 0) C dX4_undo_13 rfl h14
    have h12 := zs_iret C dX4_undo_12
    have h10 := zs_bipush (v := (-4)) C dX4_undo_10 (by decide) h12
    have h7 := zs_if_gt (tgt := 13) C dX4_undo_7 (by decide) h13 h10
    have h4 := zs_gI C dX4_undo_4 zf_0_2 zw_95 h7
    have h1 := zs_gR C dX4_undo_1 zf_4_1 zw_146 h4
    have h0 := zs_aload_n (i := 0) C dX4_undo_0 rfl h1
    exact h0
  case hG =>
    intro as μ r h
    obtain ⟨x0, rfl, h⟩ := g_X4_undo_i h
    exact ⟨Nat.le_of_ble_eq_true rfl, h⟩
theorem m_X4_undo (N : Nat) : zk_MV yX4_undo cX4_undo 1 (some .int) ({ frames := 3, cells := 0, slots := 0, locals := 68 } : Room) zq_I (g_X4_undo N) 0 4 := ⟨c_X4_undo N, zw_346, zw_344, zw_345, zw_26, rfl, rfl, by decide +kernel, by decide, ⟨TX4, 8, rfl⟩, fun as μ r h => by obtain ⟨x0, rfl, -⟩ := g_X4_undo_i h; exact ⟨_, _, rfl⟩⟩
-- LongestWed.seed(I)I
def f_X4_seed (N : Nat) (x0 : Nat) (x1 : Int32) (μ : ZM) : Option (Int32 × ZM) :=
  if 0 ≤ x1 then
    let μ1 := zk_si μ (x0 + 1) 7 x1
    some ((μ.1 (x0 + 1) 7), μ1)
  else
    some ((-1), μ)
def g_X4_seed (N : Nat) (as : List ZV) (μ : ZM) : Option (Int32 × ZM) := match as with
  | [.inr (.inr (4, x0)), .inl x1] => f_X4_seed N x0 x1 μ
  | _ => none
theorem g_X4_seed_i {N : Nat} {as : List ZV} {μ : ZM} {r : Int32 × ZM} (h : g_X4_seed N as μ = some r) : ∃ (x0 : Nat) (x1 : Int32), as = [.inr (.inr (4, x0)), .inl x1] ∧ f_X4_seed N x0 x1 μ = some r := by
  unfold g_X4_seed at h
  split at h
  · exact ⟨_, _, rfl, h⟩
  · cases h
set_option maxRecDepth 100000 in
theorem c_X4_seed (N : Nat) : zk_C yX4_seed cX4_seed 3 (some .int) ({ frames := 0, cells := 0, slots := 0, locals := 0 } : Room) zq_I (g_X4_seed N) := by
  refine zk_met ?κ (by decide +kernel) ?hG ?body
  case body =>
    intro X E C
    have C : zk_X X E RX4 cX4_seed 3 (some .int) ({ frames := 0, cells := 0, slots := 0, locals := 0 } : Room) := C
    have h23 := zs_iret C dX4_seed_23
    have h22 := zs_iload_n (i := 2) C dX4_seed_22 rfl h23
    have h19 := zs_pI C dX4_seed_19 zf_3_7 zw_64 rfl (by decide +kernel) h22
    have h18 := zs_iload_n (i := 1) C dX4_seed_18 rfl h19
    have h15 := zs_gR C dX4_seed_15 zf_4_0 zw_145 h18
    have h14 := zs_aload_n (i := 0) C dX4_seed_14 rfl h15
    have h13 := zs_istore_n (i := 2) C dX4_seed_13 rfl h14
    have h10 := zs_gI C dX4_seed_10 zf_3_7 zw_64 h13
    have h7 := zs_gR C dX4_seed_7 zf_4_0 zw_145 h10
    have h6 := zs_aload_n (i := 0) C dX4_seed_6 rfl h7
    have h5 := zs_iret C dX4_seed_5
    have h4 := zs_iconst (v := (-1)) C dX4_seed_4 (by decide) h5
    have h1 := zs_if_ge (tgt := 6) C dX4_seed_1 (by decide) h6 h4
    have h0 := zs_iload_n (i := 1) C dX4_seed_0 rfl h1
    exact h0
  case hG =>
    intro as μ r h
    obtain ⟨x0, x1, rfl, h⟩ := g_X4_seed_i h
    exact ⟨Nat.le_of_ble_eq_true rfl, h⟩
theorem m_X4_seed (N : Nat) : zk_MV yX4_seed cX4_seed 3 (some .int) ({ frames := 0, cells := 0, slots := 0, locals := 0 } : Room) zq_I (g_X4_seed N) 1 4 := ⟨c_X4_seed N, zw_354, zw_352, zw_353, zw_26, rfl, rfl, by decide +kernel, by decide, ⟨TX4, 8, rfl⟩, fun as μ r h => by obtain ⟨x0, x1, rfl, -⟩ := g_X4_seed_i h; exact ⟨_, _, rfl⟩⟩
-- LongestWed.keys(I)I
def f_X4_keys (N : Nat) (x0 : Nat) (x1 : Int32) (μ : ZM) : Option (Int32 × ZM) :=
  (f_X4_within N x1 0 60 μ).bind fun r1 =>
  if ¬ r1.1 = 0 then
    (f_X3_become N (x0 + 98) (x0 + 1) r1.2).bind fun r2 =>
    (f_X3_passYears N (x0 + 98) x1 r2).bind fun r3 =>
    (f_X3_keeper N (x0 + 98) r3).bind fun r4 =>
    some (r4.1, r4.2)
  else
    some ((-1), r1.2)
def g_X4_keys (N : Nat) (as : List ZV) (μ : ZM) : Option (Int32 × ZM) := match as with
  | [.inr (.inr (4, x0)), .inl x1] => f_X4_keys N x0 x1 μ
  | _ => none
theorem g_X4_keys_i {N : Nat} {as : List ZV} {μ : ZM} {r : Int32 × ZM} (h : g_X4_keys N as μ = some r) : ∃ (x0 : Nat) (x1 : Int32), as = [.inr (.inr (4, x0)), .inl x1] ∧ f_X4_keys N x0 x1 μ = some r := by
  unfold g_X4_keys at h
  split at h
  · exact ⟨_, _, rfl, h⟩
  · cases h
set_option maxRecDepth 100000 in
theorem c_X4_keys (N : Nat) : zk_C yX4_keys cX4_keys 2 (some .int) ({ frames := 4, cells := 0, slots := 0, locals := 90 } : Room) zq_I (g_X4_keys N) := by
  refine zk_met ?κ (by decide +kernel) ?hG ?body
  case body =>
    intro X E C
    have C : zk_X X E RX4 cX4_keys 2 (some .int) ({ frames := 4, cells := 0, slots := 0, locals := 90 } : Room) := C
    have h38 := zs_iret C dX4_keys_38
    have h35 := zs_vI C dX4_keys_35 (m_X3_keeper N) zw_280 ⟨Nat.le_of_ble_eq_true rfl, Nat.le_of_ble_eq_true rfl⟩ h38
    have h32 := zs_gR C dX4_keys_32 zf_4_6 zw_151 h35
    have h31 := zs_aload_n (i := 0) C dX4_keys_31 rfl h32
    have h28 := zs_vV C dX4_keys_28 (m_X3_passYears N) zw_359 ⟨Nat.le_of_ble_eq_true rfl, Nat.le_of_ble_eq_true rfl⟩ h31
    have h27 := zs_iload_n (i := 1) C dX4_keys_27 rfl h28
    have h24 := zs_gR C dX4_keys_24 zf_4_6 zw_151 h27
    have h23 := zs_aload_n (i := 0) C dX4_keys_23 rfl h24
    have h20 := zs_vV C dX4_keys_20 (m_X3_become N) zw_269 ⟨Nat.le_of_ble_eq_true rfl, Nat.le_of_ble_eq_true rfl⟩ h23
    have h17 := zs_gR C dX4_keys_17 zf_4_0 zw_145 h20
    have h16 := zs_aload_n (i := 0) C dX4_keys_16 rfl h17
    have h13 := zs_gR C dX4_keys_13 zf_4_6 zw_151 h16
    have h12 := zs_aload_n (i := 0) C dX4_keys_12 rfl h13
    have h11 := zs_iret C dX4_keys_11
    have h10 := zs_iconst (v := (-1)) C dX4_keys_10 (by decide) h11
    have h7 := zs_if_ne (tgt := 12) C dX4_keys_7 (by decide) h12 h10
    have h4 := zs_sI C dX4_keys_4 (m_X4_within N) zw_174 ⟨Nat.le_of_ble_eq_true rfl, Nat.le_of_ble_eq_true rfl⟩ h7
    have h2 := zs_bipush (v := 60) C dX4_keys_2 (by decide) h4
    have h1 := zs_iconst (v := 0) C dX4_keys_1 (by decide) h2
    have h0 := zs_iload_n (i := 1) C dX4_keys_0 rfl h1
    exact h0
  case hG =>
    intro as μ r h
    obtain ⟨x0, x1, rfl, h⟩ := g_X4_keys_i h
    exact ⟨Nat.le_of_ble_eq_true rfl, h⟩
theorem m_X4_keys (N : Nat) : zk_MV yX4_keys cX4_keys 2 (some .int) ({ frames := 4, cells := 0, slots := 0, locals := 90 } : Room) zq_I (g_X4_keys N) 1 4 := ⟨c_X4_keys N, zw_358, zw_356, zw_357, zw_26, rfl, rfl, by decide +kernel, by decide, ⟨TX4, 8, rfl⟩, fun as μ r h => by obtain ⟨x0, x1, rfl, -⟩ := g_X4_keys_i h; exact ⟨_, _, rfl⟩⟩
-- LongestWed.ahead(II)I
def f_X4_ahead (N : Nat) (x0 : Nat) (x1 : Int32) (x2 : Int32) (μ : ZM) : Option (Int32 × ZM) :=
  (f_X4_isCouple N x0 x1 μ).bind fun r1 =>
  if r1.1 = 0 then
    some ((-1), r1.2)
  else
    (f_X4_within N x2 0 60 r1.2).bind fun r2 =>
    if ¬ r2.1 = 0 then
      (f_X3_become N (x0 + 98) (x0 + 1) r2.2).bind fun r3 =>
      (f_X3_passYears N (x0 + 98) x2 r3).bind fun r4 =>
      if zk_o x1 7 = true then none else
      some ((r4.1 ((x0 + 98) + 4) (Int32.toNatClampNeg x1)), r4)
    else
      some ((-1), r2.2)
def g_X4_ahead (N : Nat) (as : List ZV) (μ : ZM) : Option (Int32 × ZM) := match as with
  | [.inr (.inr (4, x0)), .inl x1, .inl x2] => f_X4_ahead N x0 x1 x2 μ
  | _ => none
theorem g_X4_ahead_i {N : Nat} {as : List ZV} {μ : ZM} {r : Int32 × ZM} (h : g_X4_ahead N as μ = some r) : ∃ (x0 : Nat) (x1 : Int32) (x2 : Int32), as = [.inr (.inr (4, x0)), .inl x1, .inl x2] ∧ f_X4_ahead N x0 x1 x2 μ = some r := by
  unfold g_X4_ahead at h
  split at h
  · exact ⟨_, _, _, rfl, h⟩
  · cases h
set_option maxRecDepth 100000 in
theorem c_X4_ahead (N : Nat) : zk_C yX4_ahead cX4_ahead 3 (some .int) ({ frames := 4, cells := 0, slots := 0, locals := 90 } : Room) zq_I (g_X4_ahead N) := by
  refine zk_met ?κ (by decide +kernel) ?hG ?body
  case body =>
    intro X E C
    have C : zk_X X E RX4 cX4_ahead 3 (some .int) ({ frames := 4, cells := 0, slots := 0, locals := 90 } : Room) := C
    have h48 := zs_iret C dX4_ahead_48
    have h47 := zs_iald (n := 7) C dX4_ahead_47 (by decide) h48
    have h46 := zs_iload_n (i := 1) C dX4_ahead_46 rfl h47
    have h43 := zs_gR C dX4_ahead_43 zf_3_3 zw_56 h46
    have h40 := zs_gR C dX4_ahead_40 zf_4_6 zw_151 h43
    have h39 := zs_aload_n (i := 0) C dX4_ahead_39 rfl h40
    have h36 := zs_vV C dX4_ahead_36 (m_X3_passYears N) zw_359 ⟨Nat.le_of_ble_eq_true rfl, Nat.le_of_ble_eq_true rfl⟩ h39
    have h35 := zs_iload_n (i := 2) C dX4_ahead_35 rfl h36
    have h32 := zs_gR C dX4_ahead_32 zf_4_6 zw_151 h35
    have h31 := zs_aload_n (i := 0) C dX4_ahead_31 rfl h32
    have h28 := zs_vV C dX4_ahead_28 (m_X3_become N) zw_269 ⟨Nat.le_of_ble_eq_true rfl, Nat.le_of_ble_eq_true rfl⟩ h31
    have h25 := zs_gR C dX4_ahead_25 zf_4_0 zw_145 h28
    have h24 := zs_aload_n (i := 0) C dX4_ahead_24 rfl h25
    have h21 := zs_gR C dX4_ahead_21 zf_4_6 zw_151 h24
    have h20 := zs_aload_n (i := 0) C dX4_ahead_20 rfl h21
    have h19 := zs_iret C dX4_ahead_19
    have h18 := zs_iconst (v := (-1)) C dX4_ahead_18 (by decide) h19
    have h15 := zs_if_ne (tgt := 20) C dX4_ahead_15 (by decide) h20 h18
    have h12 := zs_sI C dX4_ahead_12 (m_X4_within N) zw_174 ⟨Nat.le_of_ble_eq_true rfl, Nat.le_of_ble_eq_true rfl⟩ h15
    have h10 := zs_bipush (v := 60) C dX4_ahead_10 (by decide) h12
    have h9 := zs_iconst (v := 0) C dX4_ahead_9 (by decide) h10
    have h8 := zs_iload_n (i := 2) C dX4_ahead_8 rfl h9
    have h5 := zs_if_eq (tgt := 18) C dX4_ahead_5 (by decide) h18 h8
    have h2 := zs_vI C dX4_ahead_2 (m_X4_isCouple N) zw_189 ⟨Nat.le_of_ble_eq_true rfl, Nat.le_of_ble_eq_true rfl⟩ h5
    have h1 := zs_iload_n (i := 1) C dX4_ahead_1 rfl h2
    have h0 := zs_aload_n (i := 0) C dX4_ahead_0 rfl h1
    exact h0
  case hG =>
    intro as μ r h
    obtain ⟨x0, x1, x2, rfl, h⟩ := g_X4_ahead_i h
    exact ⟨Nat.le_of_ble_eq_true rfl, h⟩
theorem m_X4_ahead (N : Nat) : zk_MV yX4_ahead cX4_ahead 3 (some .int) ({ frames := 4, cells := 0, slots := 0, locals := 90 } : Room) zq_I (g_X4_ahead N) 2 4 := ⟨c_X4_ahead N, zw_367, zw_365, zw_366, zw_26, rfl, rfl, by decide +kernel, by decide, ⟨TX4, 8, rfl⟩, fun as μ r h => by obtain ⟨x0, x1, x2, rfl, -⟩ := g_X4_ahead_i h; exact ⟨_, _, rfl⟩⟩
-- LongestWed.then(I)I
def f_X4_then (N : Nat) (x0 : Nat) (x1 : Int32) (μ : ZM) : Option (Int32 × ZM) :=
  (f_X4_within N x1 0 60 μ).bind fun r1 =>
  if ¬ r1.1 = 0 then
    (f_X3_become N (x0 + 98) (x0 + 1) r1.2).bind fun r2 =>
    (f_X3_passYears N (x0 + 98) x1 r2).bind fun r3 =>
    some ((r3.1 (x0 + 98) 5), r3)
  else
    some ((-1), r1.2)
def g_X4_then (N : Nat) (as : List ZV) (μ : ZM) : Option (Int32 × ZM) := match as with
  | [.inr (.inr (4, x0)), .inl x1] => f_X4_then N x0 x1 μ
  | _ => none
theorem g_X4_then_i {N : Nat} {as : List ZV} {μ : ZM} {r : Int32 × ZM} (h : g_X4_then N as μ = some r) : ∃ (x0 : Nat) (x1 : Int32), as = [.inr (.inr (4, x0)), .inl x1] ∧ f_X4_then N x0 x1 μ = some r := by
  unfold g_X4_then at h
  split at h
  · exact ⟨_, _, rfl, h⟩
  · cases h
set_option maxRecDepth 100000 in
theorem c_X4_then (N : Nat) : zk_C yX4_then cX4_then 2 (some .int) ({ frames := 4, cells := 0, slots := 0, locals := 90 } : Room) zq_I (g_X4_then N) := by
  refine zk_met ?κ (by decide +kernel) ?hG ?body
  case body =>
    intro X E C
    have C : zk_X X E RX4 cX4_then 2 (some .int) ({ frames := 4, cells := 0, slots := 0, locals := 90 } : Room) := C
    have h38 := zs_iret C dX4_then_38
    have h35 := zs_gI C dX4_then_35 zf_3_5 zw_60 h38
    have h32 := zs_gR C dX4_then_32 zf_4_6 zw_151 h35
    have h31 := zs_aload_n (i := 0) C dX4_then_31 rfl h32
    have h28 := zs_vV C dX4_then_28 (m_X3_passYears N) zw_359 ⟨Nat.le_of_ble_eq_true rfl, Nat.le_of_ble_eq_true rfl⟩ h31
    have h27 := zs_iload_n (i := 1) C dX4_then_27 rfl h28
    have h24 := zs_gR C dX4_then_24 zf_4_6 zw_151 h27
    have h23 := zs_aload_n (i := 0) C dX4_then_23 rfl h24
    have h20 := zs_vV C dX4_then_20 (m_X3_become N) zw_269 ⟨Nat.le_of_ble_eq_true rfl, Nat.le_of_ble_eq_true rfl⟩ h23
    have h17 := zs_gR C dX4_then_17 zf_4_0 zw_145 h20
    have h16 := zs_aload_n (i := 0) C dX4_then_16 rfl h17
    have h13 := zs_gR C dX4_then_13 zf_4_6 zw_151 h16
    have h12 := zs_aload_n (i := 0) C dX4_then_12 rfl h13
    have h11 := zs_iret C dX4_then_11
    have h10 := zs_iconst (v := (-1)) C dX4_then_10 (by decide) h11
    have h7 := zs_if_ne (tgt := 12) C dX4_then_7 (by decide) h12 h10
    have h4 := zs_sI C dX4_then_4 (m_X4_within N) zw_174 ⟨Nat.le_of_ble_eq_true rfl, Nat.le_of_ble_eq_true rfl⟩ h7
    have h2 := zs_bipush (v := 60) C dX4_then_2 (by decide) h4
    have h1 := zs_iconst (v := 0) C dX4_then_1 (by decide) h2
    have h0 := zs_iload_n (i := 1) C dX4_then_0 rfl h1
    exact h0
  case hG =>
    intro as μ r h
    obtain ⟨x0, x1, rfl, h⟩ := g_X4_then_i h
    exact ⟨Nat.le_of_ble_eq_true rfl, h⟩
theorem m_X4_then (N : Nat) : zk_MV yX4_then cX4_then 2 (some .int) ({ frames := 4, cells := 0, slots := 0, locals := 90 } : Room) zq_I (g_X4_then N) 1 4 := ⟨c_X4_then N, zw_371, zw_369, zw_370, zw_26, rfl, rfl, by decide +kernel, by decide, ⟨TX4, 8, rfl⟩, fun as μ r h => by obtain ⟨x0, x1, rfl, -⟩ := g_X4_then_i h; exact ⟨_, _, rfl⟩⟩
