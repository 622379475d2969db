-- LongestWedModel.bitsOf(I)I
def f_X5_bitsOf_L4 (N : Nat) : Nat → Int32 → Int32 → Int32 → ZM → Option (Int32 × ZM)
  | 0, _, _, _, _ => none
  | n + 1, x0, x1, x2, μ =>
    if (20 : Int32) ≤ x2 then
      some (x1, μ)
    else
      f_X5_bitsOf_L4 N n x0 (x1 + ((x0 >>> (x2 &&& 31)) &&& 1)) (x2 + 1) μ
def k_X5_bitsOf_L4 (N n : Nat) : ZK (Int32 × ZM) := fun L st μ => match L, st with
  | [some (.inl x0), some (.inl x1), some (.inl x2)], [] => f_X5_bitsOf_L4 N n x0 x1 x2 μ
  | _, _ => none
theorem k_X5_bitsOf_L4_i {N : Nat} {n : Nat} {L : ZL} {st : List ZV} {μ : ZM} {r : Int32 × ZM} (h : k_X5_bitsOf_L4 N n L st μ = some r) : ∃ (x0 : Int32) (x1 : Int32) (x2 : Int32), L = [some (.inl x0), some (.inl x1), some (.inl x2)] ∧ st = [] ∧ f_X5_bitsOf_L4 N n x0 x1 x2 μ = some r := by
  unfold k_X5_bitsOf_L4 at h
  split at h
  · exact ⟨_, _, _, rfl, rfl, h⟩
  · cases h
set_option maxRecDepth 100000 in
theorem s_X5_bitsOf_L4 (N : Nat) {X : ZX} {E : ZE} (C : zk_X X E RX5 cX5_bitsOf 3 (some .int) ({ frames := 0, cells := 0, slots := 0, locals := 0 } : Room)) : ∀ n, zk_S X E 3 zq_I 4 (k_X5_bitsOf_L4 N n) := by
  intro n
  induction n with
  | zero =>
    intro H locs ls L st μ r h hL hst hW hS
    obtain ⟨x0, x1, x2, rfl, rfl, h⟩ := k_X5_bitsOf_L4_i h
    exact nomatch (show none = some r from h)
  | succ n ih =>
    have h25 := zs_iret C dX5_bitsOf_25
    have h24 := zs_iload_n (i := 1) C dX5_bitsOf_24 rfl h25
    have h21 := zs_goto (tgt := 4) C dX5_bitsOf_21 (by decide) ih
    have h18 := zs_iinc (n := 1) C dX5_bitsOf_18 (by decide) h21
    have h17 := zs_istore_n (i := 1) C dX5_bitsOf_17 rfl h18
    have h16 := zs_iadd C dX5_bitsOf_16 h17
    have h15 := zs_iand C dX5_bitsOf_15 h16
    have h14 := zs_iconst (v := 1) C dX5_bitsOf_14 (by decide) h15
    have h13 := zs_ishr C dX5_bitsOf_13 h14
    have h12 := zs_iload_n (i := 2) C dX5_bitsOf_12 rfl h13
    have h11 := zs_iload_n (i := 0) C dX5_bitsOf_11 rfl h12
    have h10 := zs_iload_n (i := 1) C dX5_bitsOf_10 rfl h11
    have h7 := zs_icmp_ge (tgt := 24) C dX5_bitsOf_7 (by decide) h24 h10
    have h5 := zs_bipush (v := 20) C dX5_bitsOf_5 (by decide) h7
    have h4 := zs_iload_n (i := 2) C dX5_bitsOf_4 rfl h5
    intro H locs ls L st μ r h hL hst hW hS
    obtain ⟨x0, x1, x2, rfl, rfl, h⟩ := k_X5_bitsOf_L4_i h
    exact h4 H locs ls [some (.inl x0), some (.inl x1), some (.inl x2)] [] μ r h (hL.less ⟨rfl, rfl, rfl, trivial⟩) hst hW hS
def f_X5_bitsOf (N : Nat) (x0 : Int32) (μ : ZM) : Option (Int32 × ZM) :=
  f_X5_bitsOf_L4 N N x0 0 0 μ
def g_X5_bitsOf (N : Nat) (as : List ZV) (μ : ZM) : Option (Int32 × ZM) := match as with
  | [.inl x0] => f_X5_bitsOf N x0 μ
  | _ => none
theorem g_X5_bitsOf_i {N : Nat} {as : List ZV} {μ : ZM} {r : Int32 × ZM} (h : g_X5_bitsOf N as μ = some r) : ∃ (x0 : Int32), as = [.inl x0] ∧ f_X5_bitsOf N x0 μ = some r := by
  unfold g_X5_bitsOf at h
  split at h
  · exact ⟨_, rfl, h⟩
  · cases h
set_option maxRecDepth 100000 in
theorem c_X5_bitsOf (N : Nat) : zk_C yX5_bitsOf cX5_bitsOf 3 (some .int) ({ frames := 0, cells := 0, slots := 0, locals := 0 } : Room) zq_I (g_X5_bitsOf N) := by
  refine zk_met ?κ (by decide +kernel) ?hG ?body
  case body =>
    intro X E C
    have C : zk_X X E RX5 cX5_bitsOf 3 (some .int) ({ frames := 0, cells := 0, slots := 0, locals := 0 } : Room) := C
    have e4 := s_X5_bitsOf_L4 N C N
    have h3 := zs_istore_n (i := 2) C dX5_bitsOf_3 rfl e4
    have h2 := zs_iconst (v := 0) C dX5_bitsOf_2 (by decide) h3
    have h1 := zs_istore_n (i := 1) C dX5_bitsOf_1 rfl h2
    have h0 := zs_iconst (v := 0) C dX5_bitsOf_0 (by decide) h1
    exact h0
  case hG =>
    intro as μ r h
    obtain ⟨x0, rfl, h⟩ := g_X5_bitsOf_i h
    exact ⟨Nat.le_of_ble_eq_true rfl, h⟩
theorem m_X5_bitsOf (N : Nat) : zk_MS yX5_bitsOf cX5_bitsOf 3 (some .int) ({ frames := 0, cells := 0, slots := 0, locals := 0 } : Room) zq_I (g_X5_bitsOf N) 1 := ⟨c_X5_bitsOf N, zw_757, zw_756, zw_31, rfl, rfl, by decide +kernel⟩
-- LongestWedModel.rivals(III)I
def f_X5_rivals_L51 (N : Nat) : Nat → Nat → Int32 → Int32 → Int32 → Int32 → Int32 → Int32 → ZM → Option (Int32 × ZM)
  | 0, _, _, _, _, _, _, _, _ => none
  | n + 1, x0, x1, x2, x3, x4, x5, x6, μ =>
    if x4 < x6 then
      if x5 = (-4 : Int32) then
        some (x5, μ)
      else
        if ¬ x3 = (1 : Int32) then
          (f_X5_bitsOf N x5 μ).bind fun r1 =>
          some (r1.1, r1.2)
        else
          some (x5, μ)
    else
      if ¬ (x6 &&& (x4 ^^^ (-1))) = 0 then
        f_X5_rivals_L51 N n x0 x1 x2 x3 x4 x5 (x6 + 1) μ
      else
        let j88 : ZM → Option (Int32 × ZM) := fun μ2 =>
          (f_X5_take N x0 μ2).bind fun r3 =>
          let μ4 := zk_si r3 (x0 + 2) 2 ((r3.1 (x0 + 2) 2) ||| x6)
          (f_X5_goOn N x0 x2 μ4).bind fun r5 =>
          (f_X5_keysOf N (x0 + 2) r5).bind fun r6 =>
          if ¬ r6.1 = x1 then
            f_X5_rivals_L51 N n x0 x1 x2 x3 x4 x5 (x6 + 1) r6.2
          else
            f_X5_rivals_L51 N n x0 x1 x2 x3 x4 x6 (x6 + 1) r6.2
        if x5 = (-4 : Int32) then
          j88 μ
        else
          (f_X5_bitsOf N x6 μ).bind fun r7 =>
          (f_X5_bitsOf N x5 r7.2).bind fun r8 =>
          if r8.1 ≤ r7.1 then
            f_X5_rivals_L51 N n x0 x1 x2 x3 x4 x5 (x6 + 1) r8.2
          else
            j88 r8.2
def k_X5_rivals_L51 (N n : Nat) : ZK (Int32 × ZM) := fun L st μ => match L, st with
  | [some (.inr (.inr (5, x0))), some (.inl x1), some (.inl x2), some (.inl x3), some (.inl x4), some (.inl x5), some (.inl x6)], [] => f_X5_rivals_L51 N n x0 x1 x2 x3 x4 x5 x6 μ
  | _, _ => none
theorem k_X5_rivals_L51_i {N : Nat} {n : Nat} {L : ZL} {st : List ZV} {μ : ZM} {r : Int32 × ZM} (h : k_X5_rivals_L51 N n L st μ = some r) : ∃ (x0 : Nat) (x1 : Int32) (x2 : Int32) (x3 : Int32) (x4 : Int32) (x5 : Int32) (x6 : Int32), L = [some (.inr (.inr (5, x0))), some (.inl x1), some (.inl x2), some (.inl x3), some (.inl x4), some (.inl x5), some (.inl x6)] ∧ st = [] ∧ f_X5_rivals_L51 N n x0 x1 x2 x3 x4 x5 x6 μ = some r := by
  unfold k_X5_rivals_L51 at h
  split at h
  · exact ⟨_, _, _, _, _, _, _, rfl, rfl, h⟩
  · cases h
set_option maxRecDepth 100000 in
theorem s_X5_rivals_L51 (N : Nat) {X : ZX} {E : ZE} (C : zk_X X E RX5 cX5_rivals 7 (some .int) ({ frames := 8, cells := 0, slots := 0, locals := 177 } : Room)) : ∀ n, zk_S X E 7 zq_I 51 (k_X5_rivals_L51 N n) := by
  intro n
  induction n with
  | zero =>
    intro H locs ls L st μ r h hL hst hW hS
    obtain ⟨x0, x1, x2, x3, x4, x5, x6, rfl, rfl, h⟩ := k_X5_rivals_L51_i h
    exact nomatch (show none = some r from h)
  | succ n ih =>
    have h156 := zs_iret C dX5_rivals_156
    have h153 := zs_sI C dX5_rivals_153 (m_X5_bitsOf N) zw_755 ⟨Nat.le_of_ble_eq_true rfl, Nat.le_of_ble_eq_true rfl⟩ h156
    have h151 := zs_iload (i := 5) C dX5_rivals_151 h153
    have h148 := zs_goto (tgt := 156) C dX5_rivals_148 (by decide) h156
    have h146 := zs_iload (i := 5) C dX5_rivals_146 h148
    have h143 := zs_icmp_ne (tgt := 151) C dX5_rivals_143 (by decide) h151 h146
    have h142 := zs_iconst (v := 1) C dX5_rivals_142 (by decide) h143
    have h141 := zs_iload_n (i := 3) C dX5_rivals_141 rfl h142
    have h138 := zs_icmp_eq (tgt := 146) C dX5_rivals_138 (by decide) h146 h141
    have h136 := zs_bipush (v := (-4)) C dX5_rivals_136 (by decide) h138
    have h134 := zs_iload (i := 5) C dX5_rivals_134 h136
    have h131 := zs_goto (tgt := 51) C dX5_rivals_131 (by decide) ih
    have h128 := zs_iinc (n := 1) C dX5_rivals_128 (by decide) h131
    have h126 := zs_istore (i := 5) C dX5_rivals_126 h128
    have h124 := zs_iload (i := 5) C dX5_rivals_124 h126
    have h121 := zs_goto (tgt := 126) C dX5_rivals_121 (by decide) h126
    have h119 := zs_iload (i := 6) C dX5_rivals_119 h121
    have h116 := zs_icmp_ne (tgt := 124) C dX5_rivals_116 (by decide) h124 h119
    have h115 := zs_iload_n (i := 1) C dX5_rivals_115 rfl h116
    have h112 := zs_sI C dX5_rivals_112 (m_X5_keysOf N) zw_626 ⟨Nat.le_of_ble_eq_true rfl, Nat.le_of_ble_eq_true rfl⟩ h115
    have h109 := zs_gR C dX5_rivals_109 zf_5_1 zw_544 h112
    have h108 := zs_aload_n (i := 0) C dX5_rivals_108 rfl h109
    have h105 := zs_vV C dX5_rivals_105 (m_X5_goOn N) zw_727 ⟨Nat.le_of_ble_eq_true rfl, Nat.le_of_ble_eq_true rfl⟩ h108
    have h104 := zs_iload_n (i := 2) C dX5_rivals_104 rfl h105
    have h103 := zs_aload_n (i := 0) C dX5_rivals_103 rfl h104
    have h102 := zs_iast (n := 32) C dX5_rivals_102 (by decide) h103
    have h101 := zs_ior C dX5_rivals_101 h102
    have h99 := zs_iload (i := 6) C dX5_rivals_99 h101
    have h98 := zs_iald (n := 32) C dX5_rivals_98 (by decide) h99
    have h97 := zs_dup2 C dX5_rivals_97 h98
    have h96 := zs_iconst (v := 2) C dX5_rivals_96 (by decide) h97
    have h93 := zs_gR C dX5_rivals_93 zf_5_1 zw_544 h96
    have h92 := zs_aload_n (i := 0) C dX5_rivals_92 rfl h93
    have h89 := zs_vV C dX5_rivals_89 (m_X5_take N) zw_723 ⟨Nat.le_of_ble_eq_true rfl, Nat.le_of_ble_eq_true rfl⟩ h92
    have h88 := zs_aload_n (i := 0) C dX5_rivals_88 rfl h89
    have h85 := zs_icmp_ge (tgt := 128) C dX5_rivals_85 (by decide) h128 h88
    have h82 := zs_sI C dX5_rivals_82 (m_X5_bitsOf N) zw_755 ⟨Nat.le_of_ble_eq_true rfl, Nat.le_of_ble_eq_true rfl⟩ h85
    have h80 := zs_iload (i := 5) C dX5_rivals_80 h82
    have h77 := zs_sI C dX5_rivals_77 (m_X5_bitsOf N) zw_755 ⟨Nat.le_of_ble_eq_true rfl, Nat.le_of_ble_eq_true rfl⟩ h80
    have h75 := zs_iload (i := 6) C dX5_rivals_75 h77
    have h72 := zs_icmp_eq (tgt := 88) C dX5_rivals_72 (by decide) h88 h75
    have h70 := zs_bipush (v := (-4)) C dX5_rivals_70 (by decide) h72
    have h68 := zs_iload (i := 5) C dX5_rivals_68 h70
    have h65 := zs_if_ne (tgt := 128) C dX5_rivals_65 (by decide) h128 h68
    have h64 := zs_iand C dX5_rivals_64 h65
    have h63 := zs_ixor C dX5_rivals_63 h64
    have h62 := zs_iconst (v := (-1)) C dX5_rivals_62 (by decide) h63
    have h60 := zs_iload (i := 4) C dX5_rivals_60 h62
    have h58 := zs_iload (i := 6) C dX5_rivals_58 h60
    have h55 := zs_icmp_gt (tgt := 134) C dX5_rivals_55 (by decide) h134 h58
    have h53 := zs_iload (i := 4) C dX5_rivals_53 h55
    have h51 := zs_iload (i := 6) C dX5_rivals_51 h53
    intro H locs ls L st μ r h hL hst hW hS
    obtain ⟨x0, x1, x2, x3, x4, x5, x6, rfl, rfl, h⟩ := k_X5_rivals_L51_i h
    exact h51 H locs ls [some (.inr (.inr (5, x0))), some (.inl x1), some (.inl x2), some (.inl x3), some (.inl x4), some (.inl x5), some (.inl x6)] [] μ r h (hL.less ⟨rfl, rfl, rfl, rfl, rfl, rfl, rfl, trivial⟩) hst hW hS
def f_X5_rivals (N : Nat) (x0 : Nat) (x1 : Int32) (x2 : Int32) (x3 : Int32) (μ : ZM) : Option (Int32 × ZM) :=
  (f_X5_isCouple N x0 x1 μ).bind fun r1 =>
  if r1.1 = 0 then
    some ((-1), r1.2)
  else
    (f_X5_in N x2 0 40 r1.2).bind fun r2 =>
    if r2.1 = 0 then
      some ((-1), r2.2)
    else
      (f_X5_in N x3 0 1 r2.2).bind fun r3 =>
      if ¬ r3.1 = 0 then
        (f_X5_togetherOf N (x0 + 1) r3.2).bind fun r4 =>
        f_X5_rivals_L51 N N x0 x1 x2 x3 (r4.1 &&& ((1 <<< (x1 &&& 31)) ^^^ (-1))) (-4) 0 r4.2
      else
        some ((-1), r3.2)
def g_X5_rivals (N : Nat) (as : List ZV) (μ : ZM) : Option (Int32 × ZM) := match as with
  | [.inr (.inr (5, x0)), .inl x1, .inl x2, .inl x3] => f_X5_rivals N x0 x1 x2 x3 μ
  | _ => none
theorem g_X5_rivals_i {N : Nat} {as : List ZV} {μ : ZM} {r : Int32 × ZM} (h : g_X5_rivals N as μ = some r) : ∃ (x0 : Nat) (x1 : Int32) (x2 : Int32) (x3 : Int32), as = [.inr (.inr (5, x0)), .inl x1, .inl x2, .inl x3] ∧ f_X5_rivals N x0 x1 x2 x3 μ = some r := by
  unfold g_X5_rivals at h
  split at h
  · exact ⟨_, _, _, _, rfl, h⟩
  · cases h
set_option maxRecDepth 100000 in
theorem c_X5_rivals (N : Nat) : zk_C yX5_rivals cX5_rivals 7 (some .int) ({ frames := 8, cells := 0, slots := 0, locals := 177 } : Room) zq_I (g_X5_rivals N) := by
  refine zk_met ?κ (by decide +kernel) ?hG ?body
  case body =>
    intro X E C
    have C : zk_X X E RX5 cX5_rivals 7 (some .int) ({ frames := 8, cells := 0, slots := 0, locals := 177 } : Room) := C
    have e51 := s_X5_rivals_L51 N C N
    have h49 := zs_istore (i := 6) C dX5_rivals_49 e51
    have h48 := zs_iconst (v := 0) C dX5_rivals_48 (by decide) h49
    have h46 := zs_istore (i := 5) C dX5_rivals_46 h48
    have h44 := zs_bipush (v := (-4)) C dX5_rivals_44 (by decide) h46
    have h42 := zs_istore (i := 4) C dX5_rivals_42 h44
    have h41 := zs_iand C dX5_rivals_41 h42
    have h40 := zs_ixor C dX5_rivals_40 h41
    have h39 := zs_iconst (v := (-1)) C dX5_rivals_39 (by decide) h40
    have h38 := zs_ishl C dX5_rivals_38 h39
    have h37 := zs_iload_n (i := 1) C dX5_rivals_37 rfl h38
    have h36 := zs_iconst (v := 1) C dX5_rivals_36 (by decide) h37
    have h33 := zs_sI C dX5_rivals_33 (m_X5_togetherOf N) zw_667 ⟨Nat.le_of_ble_eq_true rfl, Nat.le_of_ble_eq_true rfl⟩ h36
    have h30 := zs_gR C dX5_rivals_30 zf_5_0 zw_543 h33
    have h29 := zs_aload_n (i := 0) C dX5_rivals_29 rfl h30
    have h28 := zs_iret C dX5_rivals_28
    have h27 := zs_iconst (v := (-1)) C dX5_rivals_27 (by decide) h28
    have h24 := zs_if_ne (tgt := 29) C dX5_rivals_24 (by decide) h29 h27
    have h21 := zs_sI C dX5_rivals_21 (m_X5_in N) zw_603 ⟨Nat.le_of_ble_eq_true rfl, Nat.le_of_ble_eq_true rfl⟩ h24
    have h20 := zs_iconst (v := 1) C dX5_rivals_20 (by decide) h21
    have h19 := zs_iconst (v := 0) C dX5_rivals_19 (by decide) h20
    have h18 := zs_iload_n (i := 3) C dX5_rivals_18 rfl h19
    have h15 := zs_if_eq (tgt := 27) C dX5_rivals_15 (by decide) h27 h18
    have h12 := zs_sI C dX5_rivals_12 (m_X5_in N) zw_603 ⟨Nat.le_of_ble_eq_true rfl, Nat.le_of_ble_eq_true rfl⟩ h15
    have h10 := zs_bipush (v := 40) C dX5_rivals_10 (by decide) h12
    have h9 := zs_iconst (v := 0) C dX5_rivals_9 (by decide) h10
    have h8 := zs_iload_n (i := 2) C dX5_rivals_8 rfl h9
    have h5 := zs_if_eq (tgt := 27) C dX5_rivals_5 (by decide) h27 h8
    have h2 := zs_vI C dX5_rivals_2 (m_X5_isCouple N) zw_613 ⟨Nat.le_of_ble_eq_true rfl, Nat.le_of_ble_eq_true rfl⟩ h5
    have h1 := zs_iload_n (i := 1) C dX5_rivals_1 rfl h2
    have h0 := zs_aload_n (i := 0) C dX5_rivals_0 rfl h1
    exact h0
  case hG =>
    intro as μ r h
    obtain ⟨x0, x1, x2, x3, rfl, h⟩ := g_X5_rivals_i h
    exact ⟨Nat.le_of_ble_eq_true rfl, h⟩
theorem m_X5_rivals (N : Nat) : zk_MV yX5_rivals cX5_rivals 7 (some .int) ({ frames := 8, cells := 0, slots := 0, locals := 177 } : Room) zq_I (g_X5_rivals N) 3 5 := ⟨c_X5_rivals N, zw_754, zw_752, zw_753, zw_31, rfl, rfl, by decide +kernel, by decide, ⟨TX5, 18, rfl⟩, fun as μ r h => by obtain ⟨x0, x1, x2, x3, rfl, -⟩ := g_X5_rivals_i h; exact ⟨_, _, rfl⟩⟩
-- LongestWedModel.needs(II)I
def f_X5_needs_L36 (N : Nat) : Nat → Nat → Int32 → Int32 → Int32 → ZM → Option (Int32 × ZM)
  | 0, _, _, _, _, _ => none
  | n + 1, x0, x1, x2, x3, μ =>
    if (19 : Int32) < x3 then
      some ((-4), μ)
    else
      (f_X5_take N x0 μ).bind fun r1 =>
      (f_X5_nurseOn N (x0 + 2) x1 x3 r1).bind fun r2 =>
      (f_X5_goOn N x0 x2 r2).bind fun r3 =>
      (f_X5_isParted N (x0 + 2) x1 r3).bind fun r4 =>
      if ¬ r4.1 = 0 then
        f_X5_needs_L36 N n x0 x1 x2 (x3 + 1) r4.2
      else
        some (x3, r4.2)
def k_X5_needs_L36 (N n : Nat) : ZK (Int32 × ZM) := fun L st μ => match L, st with
  | [some (.inr (.inr (5, x0))), some (.inl x1), some (.inl x2), some (.inl x3)], [] => f_X5_needs_L36 N n x0 x1 x2 x3 μ
  | _, _ => none
theorem k_X5_needs_L36_i {N : Nat} {n : Nat} {L : ZL} {st : List ZV} {μ : ZM} {r : Int32 × ZM} (h : k_X5_needs_L36 N n L st μ = some r) : ∃ (x0 : Nat) (x1 : Int32) (x2 : Int32) (x3 : Int32), L = [some (.inr (.inr (5, x0))), some (.inl x1), some (.inl x2), some (.inl x3)] ∧ st = [] ∧ f_X5_needs_L36 N n x0 x1 x2 x3 μ = some r := by
  unfold k_X5_needs_L36 at h
  split at h
  · exact ⟨_, _, _, _, rfl, rfl, h⟩
  · cases h
set_option maxRecDepth 100000 in
theorem s_X5_needs_L36 (N : Nat) {X : ZX} {E : ZE} (C : zk_X X E RX5 cX5_needs 4 (some .int) ({ frames := 8, cells := 0, slots := 0, locals := 177 } : Room)) : ∀ n, zk_S X E 4 zq_I 36 (k_X5_needs_L36 N n) := by
  intro n
  induction n with
  | zero =>
    intro H locs ls L st μ r h hL hst hW hS
    obtain ⟨x0, x1, x2, x3, rfl, rfl, h⟩ := k_X5_needs_L36_i h
    exact nomatch (show none = some r from h)
  | succ n ih =>
    have h81 := zs_iret C dX5_needs_81
    have h79 := zs_bipush (v := (-4)) C dX5_needs_79 (by decide) h81
    have h76 := zs_goto (tgt := 36) C dX5_needs_76 (by decide) ih
    have h73 := zs_iinc (n := 1) C dX5_needs_73 (by decide) h76
    have h72 := zs_iret C dX5_needs_72
    have h71 := zs_iload_n (i := 3) C dX5_needs_71 rfl h72
    have h68 := zs_if_ne (tgt := 73) C dX5_needs_68 (by decide) h73 h71
    have h65 := zs_sI C dX5_needs_65 (m_X5_isParted N) zw_617 ⟨Nat.le_of_ble_eq_true rfl, Nat.le_of_ble_eq_true rfl⟩ h68
    have h64 := zs_iload_n (i := 1) C dX5_needs_64 rfl h65
    have h61 := zs_gR C dX5_needs_61 zf_5_1 zw_544 h64
    have h60 := zs_aload_n (i := 0) C dX5_needs_60 rfl h61
    have h57 := zs_vV C dX5_needs_57 (m_X5_goOn N) zw_727 ⟨Nat.le_of_ble_eq_true rfl, Nat.le_of_ble_eq_true rfl⟩ h60
    have h56 := zs_iload_n (i := 2) C dX5_needs_56 rfl h57
    have h55 := zs_aload_n (i := 0) C dX5_needs_55 rfl h56
    have h52 := zs_sV C dX5_needs_52 (m_X5_nurseOn N) zw_686 ⟨Nat.le_of_ble_eq_true rfl, Nat.le_of_ble_eq_true rfl⟩ h55
    have h51 := zs_iload_n (i := 3) C dX5_needs_51 rfl h52
    have h50 := zs_iload_n (i := 1) C dX5_needs_50 rfl h51
    have h47 := zs_gR C dX5_needs_47 zf_5_1 zw_544 h50
    have h46 := zs_aload_n (i := 0) C dX5_needs_46 rfl h47
    have h43 := zs_vV C dX5_needs_43 (m_X5_take N) zw_723 ⟨Nat.le_of_ble_eq_true rfl, Nat.le_of_ble_eq_true rfl⟩ h46
    have h42 := zs_aload_n (i := 0) C dX5_needs_42 rfl h43
    have h39 := zs_icmp_gt (tgt := 79) C dX5_needs_39 (by decide) h79 h42
    have h37 := zs_bipush (v := 19) C dX5_needs_37 (by decide) h39
    have h36 := zs_iload_n (i := 3) C dX5_needs_36 rfl h37
    intro H locs ls L st μ r h hL hst hW hS
    obtain ⟨x0, x1, x2, x3, rfl, rfl, h⟩ := k_X5_needs_L36_i h
    exact h36 H locs ls [some (.inr (.inr (5, x0))), some (.inl x1), some (.inl x2), some (.inl x3)] [] μ r h (hL.less ⟨rfl, rfl, rfl, rfl, trivial⟩) hst hW hS
def f_X5_needs (N : Nat) (x0 : Nat) (x1 : Int32) (x2 : Int32) (μ : ZM) : Option (Int32 × ZM) :=
  (f_X5_isCouple N x0 x1 μ).bind fun r1 =>
  if r1.1 = 0 then
    some ((-1), r1.2)
  else
    (f_X5_in N x2 1 40 r1.2).bind fun r2 =>
    if ¬ r2.1 = 0 then
      (f_X5_isParted N (x0 + 1) x1 r2.2).bind fun r3 =>
      if r3.1 = 0 then
        f_X5_needs_L36 N N x0 x1 x2 0 r3.2
      else
        some ((-2), r3.2)
    else
      some ((-1), r2.2)
def g_X5_needs (N : Nat) (as : List ZV) (μ : ZM) : Option (Int32 × ZM) := match as with
  | [.inr (.inr (5, x0)), .inl x1, .inl x2] => f_X5_needs N x0 x1 x2 μ
  | _ => none
theorem g_X5_needs_i {N : Nat} {as : List ZV} {μ : ZM} {r : Int32 × ZM} (h : g_X5_needs N as μ = some r) : ∃ (x0 : Nat) (x1 : Int32) (x2 : Int32), as = [.inr (.inr (5, x0)), .inl x1, .inl x2] ∧ f_X5_needs N x0 x1 x2 μ = some r := by
  unfold g_X5_needs at h
  split at h
  · exact ⟨_, _, _, rfl, h⟩
  · cases h
set_option maxRecDepth 100000 in
theorem c_X5_needs (N : Nat) : zk_C yX5_needs cX5_needs 4 (some .int) ({ frames := 8, cells := 0, slots := 0, locals := 177 } : Room) zq_I (g_X5_needs N) := by
  refine zk_met ?κ (by decide +kernel) ?hG ?body
  case body =>
    intro X E C
    have C : zk_X X E RX5 cX5_needs 4 (some .int) ({ frames := 8, cells := 0, slots := 0, locals := 177 } : Room) := C
    have e36 := s_X5_needs_L36 N C N
    have h35 := zs_istore_n (i := 3) C dX5_needs_35 rfl e36
    have h34 := zs_iconst (v := 0) C dX5_needs_34 (by decide) h35
    have h33 := zs_iret C dX5_needs_33
    have h31 := zs_bipush (v := (-2)) C dX5_needs_31 (by decide) h33
    have h28 := zs_if_eq (tgt := 34) C dX5_needs_28 (by decide) h34 h31
    have h25 := zs_sI C dX5_needs_25 (m_X5_isParted N) zw_617 ⟨Nat.le_of_ble_eq_true rfl, Nat.le_of_ble_eq_true rfl⟩ h28
    have h24 := zs_iload_n (i := 1) C dX5_needs_24 rfl h25
    have h21 := zs_gR C dX5_needs_21 zf_5_0 zw_543 h24
    have h20 := zs_aload_n (i := 0) C dX5_needs_20 rfl h21
    have h19 := zs_iret C dX5_needs_19
    have h18 := zs_iconst (v := (-1)) C dX5_needs_18 (by decide) h19
    have h15 := zs_if_ne (tgt := 20) C dX5_needs_15 (by decide) h20 h18
    have h12 := zs_sI C dX5_needs_12 (m_X5_in N) zw_603 ⟨Nat.le_of_ble_eq_true rfl, Nat.le_of_ble_eq_true rfl⟩ h15
    have h10 := zs_bipush (v := 40) C dX5_needs_10 (by decide) h12
    have h9 := zs_iconst (v := 1) C dX5_needs_9 (by decide) h10
    have h8 := zs_iload_n (i := 2) C dX5_needs_8 rfl h9
    have h5 := zs_if_eq (tgt := 18) C dX5_needs_5 (by decide) h18 h8
    have h2 := zs_vI C dX5_needs_2 (m_X5_isCouple N) zw_613 ⟨Nat.le_of_ble_eq_true rfl, Nat.le_of_ble_eq_true rfl⟩ h5
    have h1 := zs_iload_n (i := 1) C dX5_needs_1 rfl h2
    have h0 := zs_aload_n (i := 0) C dX5_needs_0 rfl h1
    exact h0
  case hG =>
    intro as μ r h
    obtain ⟨x0, x1, x2, rfl, h⟩ := g_X5_needs_i h
    exact ⟨Nat.le_of_ble_eq_true rfl, h⟩
theorem m_X5_needs (N : Nat) : zk_MV yX5_needs cX5_needs 4 (some .int) ({ frames := 8, cells := 0, slots := 0, locals := 177 } : Room) zq_I (g_X5_needs N) 2 5 := ⟨c_X5_needs N, zw_761, zw_759, zw_760, zw_31, rfl, rfl, by decide +kernel, by decide, ⟨TX5, 18, rfl⟩, fun as μ r h => by obtain ⟨x0, x1, x2, rfl, -⟩ := g_X5_needs_i h; exact ⟨_, _, rfl⟩⟩
-- LongestWedModel.soothe(II)I
def f_X5_soothe_L31 (N : Nat) : Nat → Nat → Int32 → Int32 → Int32 → Int32 → Int32 → ZM → Option (Int32 × ZM)
  | 0, _, _, _, _, _, _, _ => none
  | n + 1, x0, x1, x2, x3, x4, x5, μ =>
    if (μ.1 (x0 + 1) 0) ≤ x5 then
      if ¬ x2 = 0 then
        some (x4, μ)
      else
        some (x3, μ)
    else
      (f_X5_isParted N (x0 + 1) x5 μ).bind fun r1 =>
      if ¬ r1.1 = 0 then
        f_X5_soothe_L31 N n x0 x1 x2 x3 x4 (x5 + 1) r1.2
      else
        (f_X5_take N x0 r1.2).bind fun r2 =>
        (f_X5_nurseOn N (x0 + 2) x5 5 r2).bind fun r3 =>
        (f_X5_goOn N x0 x1 r3).bind fun r4 =>
        (f_X5_togetherOf N (x0 + 2) r4).bind fun r5 =>
        (f_X5_bitsOf N r5.1 r5.2).bind fun r6 =>
        if r6.1 ≤ x4 then
          f_X5_soothe_L31 N n x0 x1 x2 x3 x4 (x5 + 1) r6.2
        else
          f_X5_soothe_L31 N n x0 x1 x2 x5 r6.1 (x5 + 1) r6.2
def k_X5_soothe_L31 (N n : Nat) : ZK (Int32 × ZM) := fun L st μ => match L, st with
  | [some (.inr (.inr (5, x0))), some (.inl x1), some (.inl x2), some (.inl x3), some (.inl x4), some (.inl x5), _], [] => f_X5_soothe_L31 N n x0 x1 x2 x3 x4 x5 μ
  | _, _ => none
theorem k_X5_soothe_L31_i {N : Nat} {n : Nat} {L : ZL} {st : List ZV} {μ : ZM} {r : Int32 × ZM} (h : k_X5_soothe_L31 N n L st μ = some r) : ∃ (x0 : Nat) (x1 : Int32) (x2 : Int32) (x3 : Int32) (x4 : Int32) (x5 : Int32) (u6 : Option ZV), L = [some (.inr (.inr (5, x0))), some (.inl x1), some (.inl x2), some (.inl x3), some (.inl x4), some (.inl x5), u6] ∧ st = [] ∧ f_X5_soothe_L31 N n x0 x1 x2 x3 x4 x5 μ = some r := by
  unfold k_X5_soothe_L31 at h
  split at h
  · exact ⟨_, _, _, _, _, _, _, rfl, rfl, h⟩
  · cases h
set_option maxRecDepth 100000 in
theorem s_X5_soothe_L31 (N : Nat) {X : ZX} {E : ZE} (C : zk_X X E RX5 cX5_soothe 7 (some .int) ({ frames := 8, cells := 0, slots := 0, locals := 177 } : Room)) : ∀ n, zk_S X E 7 zq_I 31 (k_X5_soothe_L31 N n) := by
  intro n
  induction n with
  | zero =>
    intro H locs ls L st μ r h hL hst hW hS
    obtain ⟨x0, x1, x2, x3, x4, x5, u6, rfl, rfl, h⟩ := k_X5_soothe_L31_i h
    exact nomatch (show none = some r from h)
  | succ n ih =>
    have h115 := zs_iret C dX5_soothe_115
    have h113 := zs_iload (i := 4) C dX5_soothe_113 h115
    have h110 := zs_goto (tgt := 115) C dX5_soothe_110 (by decide) h115
    have h109 := zs_iload_n (i := 3) C dX5_soothe_109 rfl h110
    have h106 := zs_if_ne (tgt := 113) C dX5_soothe_106 (by decide) h113 h109
    have h105 := zs_iload_n (i := 2) C dX5_soothe_105 rfl h106
    have h102 := zs_goto (tgt := 31) C dX5_soothe_102 (by decide) ih
    have h99 := zs_iinc (n := 1) C dX5_soothe_99 (by decide) h102
    have h97 := zs_istore (i := 4) C dX5_soothe_97 h99
    have h95 := zs_iload (i := 6) C dX5_soothe_95 h97
    have h94 := zs_istore_n (i := 3) C dX5_soothe_94 rfl h95
    have h92 := zs_iload (i := 5) C dX5_soothe_92 h94
    have h89 := zs_icmp_le (tgt := 99) C dX5_soothe_89 (by decide) h99 h92
    have h87 := zs_iload (i := 4) C dX5_soothe_87 h89
    have h85 := zs_iload (i := 6) C dX5_soothe_85 h87
    have h83 := zs_istore (i := 6) C dX5_soothe_83 h85
    have h80 := zs_sI C dX5_soothe_80 (m_X5_bitsOf N) zw_755 ⟨Nat.le_of_ble_eq_true rfl, Nat.le_of_ble_eq_true rfl⟩ h83
    have h77 := zs_sI C dX5_soothe_77 (m_X5_togetherOf N) zw_667 ⟨Nat.le_of_ble_eq_true rfl, Nat.le_of_ble_eq_true rfl⟩ h80
    have h74 := zs_gR C dX5_soothe_74 zf_5_1 zw_544 h77
    have h73 := zs_aload_n (i := 0) C dX5_soothe_73 rfl h74
    have h70 := zs_vV C dX5_soothe_70 (m_X5_goOn N) zw_727 ⟨Nat.le_of_ble_eq_true rfl, Nat.le_of_ble_eq_true rfl⟩ h73
    have h69 := zs_iload_n (i := 1) C dX5_soothe_69 rfl h70
    have h68 := zs_aload_n (i := 0) C dX5_soothe_68 rfl h69
    have h65 := zs_sV C dX5_soothe_65 (m_X5_nurseOn N) zw_686 ⟨Nat.le_of_ble_eq_true rfl, Nat.le_of_ble_eq_true rfl⟩ h68
    have h64 := zs_iconst (v := 5) C dX5_soothe_64 (by decide) h65
    have h62 := zs_iload (i := 5) C dX5_soothe_62 h64
    have h59 := zs_gR C dX5_soothe_59 zf_5_1 zw_544 h62
    have h58 := zs_aload_n (i := 0) C dX5_soothe_58 rfl h59
    have h55 := zs_vV C dX5_soothe_55 (m_X5_take N) zw_723 ⟨Nat.le_of_ble_eq_true rfl, Nat.le_of_ble_eq_true rfl⟩ h58
    have h54 := zs_aload_n (i := 0) C dX5_soothe_54 rfl h55
    have h51 := zs_if_ne (tgt := 99) C dX5_soothe_51 (by decide) h99 h54
    have h48 := zs_sI C dX5_soothe_48 (m_X5_isParted N) zw_617 ⟨Nat.le_of_ble_eq_true rfl, Nat.le_of_ble_eq_true rfl⟩ h51
    have h46 := zs_iload (i := 5) C dX5_soothe_46 h48
    have h43 := zs_gR C dX5_soothe_43 zf_5_0 zw_543 h46
    have h42 := zs_aload_n (i := 0) C dX5_soothe_42 rfl h43
    have h39 := zs_icmp_ge (tgt := 105) C dX5_soothe_39 (by decide) h105 h42
    have h38 := zs_iald (n := 32) C dX5_soothe_38 (by decide) h39
    have h37 := zs_iconst (v := 0) C dX5_soothe_37 (by decide) h38
    have h34 := zs_gR C dX5_soothe_34 zf_5_0 zw_543 h37
    have h33 := zs_aload_n (i := 0) C dX5_soothe_33 rfl h34
    have h31 := zs_iload (i := 5) C dX5_soothe_31 h33
    intro H locs ls L st μ r h hL hst hW hS
    obtain ⟨x0, x1, x2, x3, x4, x5, u6, rfl, rfl, h⟩ := k_X5_soothe_L31_i h
    exact h31 H locs ls [some (.inr (.inr (5, x0))), some (.inl x1), some (.inl x2), some (.inl x3), some (.inl x4), some (.inl x5), none] [] μ r h (hL.less ⟨rfl, rfl, rfl, rfl, rfl, rfl, trivial⟩) hst hW hS
def f_X5_soothe (N : Nat) (x0 : Nat) (x1 : Int32) (x2 : Int32) (μ : ZM) : Option (Int32 × ZM) :=
  (f_X5_in N x1 1 40 μ).bind fun r1 =>
  if r1.1 = 0 then
    some ((-1), r1.2)
  else
    (f_X5_in N x2 0 1 r1.2).bind fun r2 =>
    if ¬ r2.1 = 0 then
      f_X5_soothe_L31 N N x0 x1 x2 (-4) (-4) 0 r2.2
    else
      some ((-1), r2.2)
def g_X5_soothe (N : Nat) (as : List ZV) (μ : ZM) : Option (Int32 × ZM) := match as with
  | [.inr (.inr (5, x0)), .inl x1, .inl x2] => f_X5_soothe N x0 x1 x2 μ
  | _ => none
theorem g_X5_soothe_i {N : Nat} {as : List ZV} {μ : ZM} {r : Int32 × ZM} (h : g_X5_soothe N as μ = some r) : ∃ (x0 : Nat) (x1 : Int32) (x2 : Int32), as = [.inr (.inr (5, x0)), .inl x1, .inl x2] ∧ f_X5_soothe N x0 x1 x2 μ = some r := by
  unfold g_X5_soothe at h
  split at h
  · exact ⟨_, _, _, rfl, h⟩
  · cases h
set_option maxRecDepth 100000 in
theorem c_X5_soothe (N : Nat) : zk_C yX5_soothe cX5_soothe 7 (some .int) ({ frames := 8, cells := 0, slots := 0, locals := 177 } : Room) zq_I (g_X5_soothe N) := by
  refine zk_met ?κ (by decide +kernel) ?hG ?body
  case body =>
    intro X E C
    have C : zk_X X E RX5 cX5_soothe 7 (some .int) ({ frames := 8, cells := 0, slots := 0, locals := 177 } : Room) := C
    have e31 := s_X5_soothe_L31 N C N
    have h29 := zs_istore (i := 5) C dX5_soothe_29 e31
    have h28 := zs_iconst (v := 0) C dX5_soothe_28 (by decide) h29
    have h26 := zs_istore (i := 4) C dX5_soothe_26 h28
    have h24 := zs_bipush (v := (-4)) C dX5_soothe_24 (by decide) h26
    have h23 := zs_istore_n (i := 3) C dX5_soothe_23 rfl h24
    have h21 := zs_bipush (v := (-4)) C dX5_soothe_21 (by decide) h23
    have h20 := zs_iret C dX5_soothe_20
    have h19 := zs_iconst (v := (-1)) C dX5_soothe_19 (by decide) h20
    have h16 := zs_if_ne (tgt := 21) C dX5_soothe_16 (by decide) h21 h19
    have h13 := zs_sI C dX5_soothe_13 (m_X5_in N) zw_603 ⟨Nat.le_of_ble_eq_true rfl, Nat.le_of_ble_eq_true rfl⟩ h16
    have h12 := zs_iconst (v := 1) C dX5_soothe_12 (by decide) h13
    have h11 := zs_iconst (v := 0) C dX5_soothe_11 (by decide) h12
    have h10 := zs_iload_n (i := 2) C dX5_soothe_10 rfl h11
    have h7 := zs_if_eq (tgt := 19) C dX5_soothe_7 (by decide) h19 h10
    have h4 := zs_sI C dX5_soothe_4 (m_X5_in N) zw_603 ⟨Nat.le_of_ble_eq_true rfl, Nat.le_of_ble_eq_true rfl⟩ h7
    have h2 := zs_bipush (v := 40) C dX5_soothe_2 (by decide) h4
    have h1 := zs_iconst (v := 1) C dX5_soothe_1 (by decide) h2
    have h0 := zs_iload_n (i := 1) C dX5_soothe_0 rfl h1
    exact h0
  case hG =>
    intro as μ r h
    obtain ⟨x0, x1, x2, rfl, h⟩ := g_X5_soothe_i h
    exact ⟨Nat.le_of_ble_eq_true rfl, h⟩
theorem m_X5_soothe (N : Nat) : zk_MV yX5_soothe cX5_soothe 7 (some .int) ({ frames := 8, cells := 0, slots := 0, locals := 177 } : Room) zq_I (g_X5_soothe N) 2 5 := ⟨c_X5_soothe N, zw_765, zw_763, zw_764, zw_31, rfl, rfl, by decide +kernel, by decide, ⟨TX5, 18, rfl⟩, fun as μ r h => by obtain ⟨x0, x1, x2, rfl, -⟩ := g_X5_soothe_i h; exact ⟨_, _, rfl⟩⟩
-- LongestWedModel.start(I)I
def f_X5_start_L14 (N : Nat) : Nat → Nat → Int32 → Int32 → ZM → Option (Int32 × ZM)
  | 0, _, _, _, _ => none
  | n + 1, x0, x1, x2, μ =>
    if (μ.1 (x0 + 1) 0) ≤ x2 then
      some ((-4), μ)
    else
      (f_X5_isParted N (x0 + 1) x2 μ).bind fun r1 =>
      if r1.1 = 0 then
        f_X5_start_L14 N n x0 x1 (x2 + 1) r1.2
      else
        (f_X5_take N x0 r1.2).bind fun r2 =>
        (f_X5_wedOn N (x0 + 2) x2 r2).bind fun r3 =>
        (f_X5_goOn N x0 x1 r3).bind fun r4 =>
        (f_X5_keysOf N (x0 + 2) r4).bind fun r5 =>
        if ¬ r5.1 = x2 then
          f_X5_start_L14 N n x0 x1 (x2 + 1) r5.2
        else
          some (x2, r5.2)
def k_X5_start_L14 (N n : Nat) : ZK (Int32 × ZM) := fun L st μ => match L, st with
  | [some (.inr (.inr (5, x0))), some (.inl x1), some (.inl x2)], [] => f_X5_start_L14 N n x0 x1 x2 μ
  | _, _ => none
theorem k_X5_start_L14_i {N : Nat} {n : Nat} {L : ZL} {st : List ZV} {μ : ZM} {r : Int32 × ZM} (h : k_X5_start_L14 N n L st μ = some r) : ∃ (x0 : Nat) (x1 : Int32) (x2 : Int32), L = [some (.inr (.inr (5, x0))), some (.inl x1), some (.inl x2)] ∧ st = [] ∧ f_X5_start_L14 N n x0 x1 x2 μ = some r := by
  unfold k_X5_start_L14 at h
  split at h
  · exact ⟨_, _, _, rfl, rfl, h⟩
  · cases h
set_option maxRecDepth 100000 in
theorem s_X5_start_L14 (N : Nat) {X : ZX} {E : ZE} (C : zk_X X E RX5 cX5_start 3 (some .int) ({ frames := 8, cells := 0, slots := 0, locals := 177 } : Room)) : ∀ n, zk_S X E 3 zq_I 14 (k_X5_start_L14 N n) := by
  intro n
  induction n with
  | zero =>
    intro H locs ls L st μ r h hL hst hW hS
    obtain ⟨x0, x1, x2, rfl, rfl, h⟩ := k_X5_start_L14_i h
    exact nomatch (show none = some r from h)
  | succ n ih =>
    have h73 := zs_iret C dX5_start_73
    have h71 := zs_bipush (v := (-4)) C dX5_start_71 (by decide) h73
    have h68 := zs_goto (tgt := 14) C dX5_start_68 (by decide) ih
    have h65 := zs_iinc (n := 1) C dX5_start_65 (by decide) h68
    have h64 := zs_iret C dX5_start_64
    have h63 := zs_iload_n (i := 2) C dX5_start_63 rfl h64
    have h60 := zs_icmp_ne (tgt := 65) C dX5_start_60 (by decide) h65 h63
    have h59 := zs_iload_n (i := 2) C dX5_start_59 rfl h60
    have h56 := zs_sI C dX5_start_56 (m_X5_keysOf N) zw_626 ⟨Nat.le_of_ble_eq_true rfl, Nat.le_of_ble_eq_true rfl⟩ h59
    have h53 := zs_gR C dX5_start_53 zf_5_1 zw_544 h56
    have h52 := zs_aload_n (i := 0) C dX5_start_52 rfl h53
    have h49 := zs_vV C dX5_start_49 (m_X5_goOn N) zw_727 ⟨Nat.le_of_ble_eq_true rfl, Nat.le_of_ble_eq_true rfl⟩ h52
    have h48 := zs_iload_n (i := 1) C dX5_start_48 rfl h49
    have h47 := zs_aload_n (i := 0) C dX5_start_47 rfl h48
    have h44 := zs_sV C dX5_start_44 (m_X5_wedOn N) zw_700 ⟨Nat.le_of_ble_eq_true rfl, Nat.le_of_ble_eq_true rfl⟩ h47
    have h43 := zs_iload_n (i := 2) C dX5_start_43 rfl h44
    have h40 := zs_gR C dX5_start_40 zf_5_1 zw_544 h43
    have h39 := zs_aload_n (i := 0) C dX5_start_39 rfl h40
    have h36 := zs_vV C dX5_start_36 (m_X5_take N) zw_723 ⟨Nat.le_of_ble_eq_true rfl, Nat.le_of_ble_eq_true rfl⟩ h39
    have h35 := zs_aload_n (i := 0) C dX5_start_35 rfl h36
    have h32 := zs_if_eq (tgt := 65) C dX5_start_32 (by decide) h65 h35
    have h29 := zs_sI C dX5_start_29 (m_X5_isParted N) zw_617 ⟨Nat.le_of_ble_eq_true rfl, Nat.le_of_ble_eq_true rfl⟩ h32
    have h28 := zs_iload_n (i := 2) C dX5_start_28 rfl h29
    have h25 := zs_gR C dX5_start_25 zf_5_0 zw_543 h28
    have h24 := zs_aload_n (i := 0) C dX5_start_24 rfl h25
    have h21 := zs_icmp_ge (tgt := 71) C dX5_start_21 (by decide) h71 h24
    have h20 := zs_iald (n := 32) C dX5_start_20 (by decide) h21
    have h19 := zs_iconst (v := 0) C dX5_start_19 (by decide) h20
    have h16 := zs_gR C dX5_start_16 zf_5_0 zw_543 h19
    have h15 := zs_aload_n (i := 0) C dX5_start_15 rfl h16
    have h14 := zs_iload_n (i := 2) C dX5_start_14 rfl h15
    intro H locs ls L st μ r h hL hst hW hS
    obtain ⟨x0, x1, x2, rfl, rfl, h⟩ := k_X5_start_L14_i h
    exact h14 H locs ls [some (.inr (.inr (5, x0))), some (.inl x1), some (.inl x2)] [] μ r h (hL.less ⟨rfl, rfl, rfl, trivial⟩) hst hW hS
def f_X5_start (N : Nat) (x0 : Nat) (x1 : Int32) (μ : ZM) : Option (Int32 × ZM) :=
  (f_X5_in N x1 0 60 μ).bind fun r1 =>
  if ¬ r1.1 = 0 then
    f_X5_start_L14 N N x0 x1 0 r1.2
  else
    some ((-1), r1.2)
def g_X5_start (N : Nat) (as : List ZV) (μ : ZM) : Option (Int32 × ZM) := match as with
  | [.inr (.inr (5, x0)), .inl x1] => f_X5_start N x0 x1 μ
  | _ => none
theorem g_X5_start_i {N : Nat} {as : List ZV} {μ : ZM} {r : Int32 × ZM} (h : g_X5_start N as μ = some r) : ∃ (x0 : Nat) (x1 : Int32), as = [.inr (.inr (5, x0)), .inl x1] ∧ f_X5_start N x0 x1 μ = some r := by
  unfold g_X5_start at h
  split at h
  · exact ⟨_, _, rfl, h⟩
  · cases h
set_option maxRecDepth 100000 in
theorem c_X5_start (N : Nat) : zk_C yX5_start cX5_start 3 (some .int) ({ frames := 8, cells := 0, slots := 0, locals := 177 } : Room) zq_I (g_X5_start N) := by
  refine zk_met ?κ (by decide +kernel) ?hG ?body
  case body =>
    intro X E C
    have C : zk_X X E RX5 cX5_start 3 (some .int) ({ frames := 8, cells := 0, slots := 0, locals := 177 } : Room) := C
    have e14 := s_X5_start_L14 N C N
    have h13 := zs_istore_n (i := 2) C dX5_start_13 rfl e14
    have h12 := zs_iconst (v := 0) C dX5_start_12 (by decide) h13
    have h11 := zs_iret C dX5_start_11
    have h10 := zs_iconst (v := (-1)) C dX5_start_10 (by decide) h11
    have h7 := zs_if_ne (tgt := 12) C dX5_start_7 (by decide) h12 h10
    have h4 := zs_sI C dX5_start_4 (m_X5_in N) zw_603 ⟨Nat.le_of_ble_eq_true rfl, Nat.le_of_ble_eq_true rfl⟩ h7
    have h2 := zs_bipush (v := 60) C dX5_start_2 (by decide) h4
    have h1 := zs_iconst (v := 0) C dX5_start_1 (by decide) h2
    have h0 := zs_iload_n (i := 1) C dX5_start_0 rfl h1
    exact h0
  case hG =>
    intro as μ r h
    obtain ⟨x0, x1, rfl, h⟩ := g_X5_start_i h
    exact ⟨Nat.le_of_ble_eq_true rfl, h⟩
theorem m_X5_start (N : Nat) : zk_MV yX5_start cX5_start 3 (some .int) ({ frames := 8, cells := 0, slots := 0, locals := 177 } : Room) zq_I (g_X5_start N) 1 5 := ⟨c_X5_start N, zw_769, zw_767, zw_768, zw_31, rfl, rfl, by decide +kernel, by decide, ⟨TX5, 18, rfl⟩, fun as μ r h => by obtain ⟨x0, x1, rfl, -⟩ := g_X5_start_i h; exact ⟨_, _, rfl⟩⟩
-- LongestWedModel.sum(I)I
def f_X5_sum_L20 (N : Nat) : Nat → Nat → Int32 → Int32 → Int32 → ZM → Option (Int32 × ZM)
  | 0, _, _, _, _, _ => none
  | n + 1, x0, x1, x2, x3, μ =>
    if x1 ≤ x3 then
      some (x2, μ)
    else
      (f_X5_keysOf N (x0 + 2) μ).bind fun r1 =>
      let j56 : Int32 → Option (Int32 × ZM) := fun b2 =>
        (f_X5_passOn N x0 (x0 + 2) r1.2).bind fun r3 =>
        f_X5_sum_L20 N n x0 x1 (x2 + b2) (x3 + 1) r3
      if ¬ r1.1 = (-4 : Int32) then
        if zk_o (25 + r1.1) 32 = true then none else
        j56 (r1.2.1 (x0 + 2) (Int32.toNatClampNeg (25 + r1.1)))
      else
        j56 0
def k_X5_sum_L20 (N n : Nat) : ZK (Int32 × ZM) := fun L st μ => match L, st with
  | [some (.inr (.inr (5, x0))), some (.inl x1), some (.inl x2), some (.inl x3), _], [] => f_X5_sum_L20 N n x0 x1 x2 x3 μ
  | _, _ => none
theorem k_X5_sum_L20_i {N : Nat} {n : Nat} {L : ZL} {st : List ZV} {μ : ZM} {r : Int32 × ZM} (h : k_X5_sum_L20 N n L st μ = some r) : ∃ (x0 : Nat) (x1 : Int32) (x2 : Int32) (x3 : Int32) (u4 : Option ZV), L = [some (.inr (.inr (5, x0))), some (.inl x1), some (.inl x2), some (.inl x3), u4] ∧ st = [] ∧ f_X5_sum_L20 N n x0 x1 x2 x3 μ = some r := by
  unfold k_X5_sum_L20 at h
  split at h
  · exact ⟨_, _, _, _, _, rfl, rfl, h⟩
  · cases h
set_option maxRecDepth 100000 in
theorem s_X5_sum_L20 (N : Nat) {X : ZX} {E : ZE} (C : zk_X X E RX5 cX5_sum 5 (some .int) ({ frames := 7, cells := 0, slots := 0, locals := 155 } : Room)) : ∀ n, zk_S X E 5 zq_I 20 (k_X5_sum_L20 N n) := by
  intro n
  induction n with
  | zero =>
    intro H locs ls L st μ r h hL hst hW hS
    obtain ⟨x0, x1, x2, x3, u4, rfl, rfl, h⟩ := k_X5_sum_L20_i h
    exact nomatch (show none = some r from h)
  | succ n ih =>
    have h73 := zs_iret C dX5_sum_73
    have h72 := zs_iload_n (i := 2) C dX5_sum_72 rfl h73
    have h69 := zs_goto (tgt := 20) C dX5_sum_69 (by decide) ih
    have h66 := zs_iinc (n := 1) C dX5_sum_66 (by decide) h69
    have h63 := zs_vV C dX5_sum_63 (m_X5_passOn N) zw_678 ⟨Nat.le_of_ble_eq_true rfl, Nat.le_of_ble_eq_true rfl⟩ h66
    have h60 := zs_gR C dX5_sum_60 zf_5_1 zw_544 h63
    have h59 := zs_aload_n (i := 0) C dX5_sum_59 rfl h60
    have h58 := zs_aload_n (i := 0) C dX5_sum_58 rfl h59
    have h57 := zs_istore_n (i := 2) C dX5_sum_57 rfl h58
    have h56 := zs_iadd C dX5_sum_56 h57
    have h55 := zs_iald (n := 32) C dX5_sum_55 (by decide) h56
    have h54 := zs_iadd C dX5_sum_54 h55
    have h52 := zs_iload (i := 4) C dX5_sum_52 h54
    have h50 := zs_bipush (v := 25) C dX5_sum_50 (by decide) h52
    have h47 := zs_gR C dX5_sum_47 zf_5_1 zw_544 h50
    have h46 := zs_aload_n (i := 0) C dX5_sum_46 rfl h47
    have h43 := zs_goto (tgt := 56) C dX5_sum_43 (by decide) h56
    have h42 := zs_iconst (v := 0) C dX5_sum_42 (by decide) h43
    have h39 := zs_icmp_ne (tgt := 46) C dX5_sum_39 (by decide) h46 h42
    have h37 := zs_bipush (v := (-4)) C dX5_sum_37 (by decide) h39
    have h35 := zs_iload (i := 4) C dX5_sum_35 h37
    have h34 := zs_iload_n (i := 2) C dX5_sum_34 rfl h35
    have h32 := zs_istore (i := 4) C dX5_sum_32 h34
    have h29 := zs_sI C dX5_sum_29 (m_X5_keysOf N) zw_626 ⟨Nat.le_of_ble_eq_true rfl, Nat.le_of_ble_eq_true rfl⟩ h32
    have h26 := zs_gR C dX5_sum_26 zf_5_1 zw_544 h29
    have h25 := zs_aload_n (i := 0) C dX5_sum_25 rfl h26
    have h22 := zs_icmp_ge (tgt := 72) C dX5_sum_22 (by decide) h72 h25
    have h21 := zs_iload_n (i := 1) C dX5_sum_21 rfl h22
    have h20 := zs_iload_n (i := 3) C dX5_sum_20 rfl h21
    intro H locs ls L st μ r h hL hst hW hS
    obtain ⟨x0, x1, x2, x3, u4, rfl, rfl, h⟩ := k_X5_sum_L20_i h
    exact h20 H locs ls [some (.inr (.inr (5, x0))), some (.inl x1), some (.inl x2), some (.inl x3), none] [] μ r h (hL.less ⟨rfl, rfl, rfl, rfl, trivial⟩) hst hW hS
def f_X5_sum (N : Nat) (x0 : Nat) (x1 : Int32) (μ : ZM) : Option (Int32 × ZM) :=
  (f_X5_in N x1 1 40 μ).bind fun r1 =>
  if ¬ r1.1 = 0 then
    (f_X5_take N x0 r1.2).bind fun r2 =>
    f_X5_sum_L20 N N x0 x1 0 0 r2
  else
    some ((-1), r1.2)
def g_X5_sum (N : Nat) (as : List ZV) (μ : ZM) : Option (Int32 × ZM) := match as with
  | [.inr (.inr (5, x0)), .inl x1] => f_X5_sum N x0 x1 μ
  | _ => none
theorem g_X5_sum_i {N : Nat} {as : List ZV} {μ : ZM} {r : Int32 × ZM} (h : g_X5_sum N as μ = some r) : ∃ (x0 : Nat) (x1 : Int32), as = [.inr (.inr (5, x0)), .inl x1] ∧ f_X5_sum N x0 x1 μ = some r := by
  unfold g_X5_sum at h
  split at h
  · exact ⟨_, _, rfl, h⟩
  · cases h
set_option maxRecDepth 100000 in
theorem c_X5_sum (N : Nat) : zk_C yX5_sum cX5_sum 5 (some .int) ({ frames := 7, cells := 0, slots := 0, locals := 155 } : Room) zq_I (g_X5_sum N) := by
  refine zk_met ?κ (by decide +kernel) ?hG ?body
  case body =>
    intro X E C
    have C : zk_X X E RX5 cX5_sum 5 (some .int) ({ frames := 7, cells := 0, slots := 0, locals := 155 } : Room) := C
    have e20 := s_X5_sum_L20 N C N
    have h19 := zs_istore_n (i := 3) C dX5_sum_19 rfl e20
    have h18 := zs_iconst (v := 0) C dX5_sum_18 (by decide) h19
    have h17 := zs_istore_n (i := 2) C dX5_sum_17 rfl h18
    have h16 := zs_iconst (v := 0) C dX5_sum_16 (by decide) h17
    have h13 := zs_vV C dX5_sum_13 (m_X5_take N) zw_723 ⟨Nat.le_of_ble_eq_true rfl, Nat.le_of_ble_eq_true rfl⟩ h16
    have h12 := zs_aload_n (i := 0) C dX5_sum_12 rfl h13
    have h11 := zs_iret C dX5_sum_11
    have h10 := zs_iconst (v := (-1)) C dX5_sum_10 (by decide) h11
    have h7 := zs_if_ne (tgt := 12) C dX5_sum_7 (by decide) h12 h10
    have h4 := zs_sI C dX5_sum_4 (m_X5_in N) zw_603 ⟨Nat.le_of_ble_eq_true rfl, Nat.le_of_ble_eq_true rfl⟩ h7
    have h2 := zs_bipush (v := 40) C dX5_sum_2 (by decide) h4
    have h1 := zs_iconst (v := 1) C dX5_sum_1 (by decide) h2
    have h0 := zs_iload_n (i := 1) C dX5_sum_0 rfl h1
    exact h0
  case hG =>
    intro as μ r h
    obtain ⟨x0, x1, rfl, h⟩ := g_X5_sum_i h
    exact ⟨Nat.le_of_ble_eq_true rfl, h⟩
theorem m_X5_sum (N : Nat) : zk_MV yX5_sum cX5_sum 5 (some .int) ({ frames := 7, cells := 0, slots := 0, locals := 155 } : Room) zq_I (g_X5_sum N) 1 5 := ⟨c_X5_sum N, zw_773, zw_771, zw_772, zw_31, rfl, rfl, by decide +kernel, by decide, ⟨TX5, 18, rfl⟩, fun as μ r h => by obtain ⟨x0, x1, rfl, -⟩ := g_X5_sum_i h; exact ⟨_, _, rfl⟩⟩
-- LongestWedModel.rows(III)I
def f_X5_rows_L83 (N : Nat) (kx : Nat → Int32 → Int32 → Int32 → Int32 → Int32 → Int32 → Int32 → Int32 → ZM → Option (Int32 × ZM)) : Nat → Nat → Int32 → Int32 → Int32 → Int32 → Int32 → Int32 → Int32 → Int32 → Int32 → ZM → Option (Int32 × ZM)
  | 0, _, _, _, _, _, _, _, _, _, _, _ => none
  | n + 1, x0, x1, x2, x3, x4, x5, x6, x7, x8, x9, μ =>
    if (μ.1 (x0 + 1) 0) ≤ x9 then
      kx x0 x1 x2 x3 x4 x5 x6 x7 x8 μ
    else
      if x8 ≤ 0 then
        kx x0 x1 x2 x3 x4 x5 x6 x7 x8 μ
      else
        (f_X5_has N x4 x9 μ).bind fun r1 =>
        if r1.1 = 0 then
          f_X5_rows_L83 N kx n x0 x1 x2 x3 x4 x5 x6 x7 x8 (x9 + 1) r1.2
        else
          (f_X5_has N x7 x9 r1.2).bind fun r2 =>
          let j129 : Int32 → Option (Int32 × ZM) := fun b3 =>
            (f_X5_has N x7 x9 r2.2).bind fun r4 =>
            if r4.1 = 0 then
              (f_X5_stirOn N (x0 + 2) x9 0 r4.2).bind fun r5 =>
              f_X5_rows_L83 N kx n x0 x1 x2 x3 x4 x5 x6 x7 (x8 * b3) (x9 + 1) r5
            else
              (f_X5_stirOn N (x0 + 2) x9 10 r4.2).bind fun r6 =>
              f_X5_rows_L83 N kx n x0 x1 x2 x3 x4 x5 x6 x7 (x8 * b3) (x9 + 1) r6
          if r2.1 = 0 then
            j129 (10 - x2)
          else
            j129 x2
def k_X5_rows_L83 (N : Nat) (κ : ZK (Int32 × ZM)) (n : Nat) : ZK (Int32 × ZM) := fun L st μ => match L, st with
  | [some (.inr (.inr (5, x0))), some (.inl x1), some (.inl x2), some (.inl x3), some (.inl x4), some (.inl x5), some (.inl x6), some (.inl x7), some (.inl x8), some (.inl x9)], [] => f_X5_rows_L83 N (fun y0 y1 y2 y3 y4 y5 y6 y7 y8 μ => κ [some (.inr (.inr (5, y0))), some (.inl y1), some (.inl y2), some (.inl y3), some (.inl y4), some (.inl y5), some (.inl y6), some (.inl y7), some (.inl y8), none] [] μ) n x0 x1 x2 x3 x4 x5 x6 x7 x8 x9 μ
  | _, _ => none
theorem k_X5_rows_L83_i {N : Nat} {κ : ZK (Int32 × ZM)} {n : Nat} {L : ZL} {st : List ZV} {μ : ZM} {r : Int32 × ZM} (h : k_X5_rows_L83 N κ n L st μ = some r) : ∃ (x0 : Nat) (x1 : Int32) (x2 : Int32) (x3 : Int32) (x4 : Int32) (x5 : Int32) (x6 : Int32) (x7 : Int32) (x8 : Int32) (x9 : Int32), L = [some (.inr (.inr (5, x0))), some (.inl x1), some (.inl x2), some (.inl x3), some (.inl x4), some (.inl x5), some (.inl x6), some (.inl x7), some (.inl x8), some (.inl x9)] ∧ st = [] ∧ f_X5_rows_L83 N (fun y0 y1 y2 y3 y4 y5 y6 y7 y8 μ => κ [some (.inr (.inr (5, y0))), some (.inl y1), some (.inl y2), some (.inl y3), some (.inl y4), some (.inl y5), some (.inl y6), some (.inl y7), some (.inl y8), none] [] μ) n x0 x1 x2 x3 x4 x5 x6 x7 x8 x9 μ = some r := by
  unfold k_X5_rows_L83 at h
  split at h
  · exact ⟨_, _, _, _, _, _, _, _, _, _, rfl, rfl, h⟩
  · cases h
set_option maxRecDepth 100000 in
theorem s_X5_rows_L83 (N : Nat) {X : ZX} {E : ZE} (C : zk_X X E RX5 cX5_rows 10 (some .int) ({ frames := 4, cells := 0, slots := 0, locals := 86 } : Room)) {κ : ZK (Int32 × ZM)} (hx0 : zk_S X E 10 zq_I 163 κ) : ∀ n, zk_S X E 10 zq_I 83 (k_X5_rows_L83 N κ n) := by
  intro n
  induction n with
  | zero =>
    intro H locs ls L st μ r h hL hst hW hS
    obtain ⟨x0, x1, x2, x3, x4, x5, x6, x7, x8, x9, rfl, rfl, h⟩ := k_X5_rows_L83_i h
    exact nomatch (show none = some r from h)
  | succ n ih =>
    have hx := zs_cut [true, true, true, true, true, true, true, true, true, false] rfl hx0
    have h160 := zs_goto (tgt := 83) C dX5_rows_160 (by decide) ih
    have h157 := zs_iinc (n := 1) C dX5_rows_157 (by decide) h160
    have h154 := zs_sV C dX5_rows_154 (m_X5_stirOn N) zw_693 ⟨Nat.le_of_ble_eq_true rfl, Nat.le_of_ble_eq_true rfl⟩ h157
    have h153 := zs_iconst (v := 0) C dX5_rows_153 (by decide) h154
    have h150 := zs_goto (tgt := 154) C dX5_rows_150 (by decide) h154
    have h148 := zs_bipush (v := 10) C dX5_rows_148 (by decide) h150
    have h145 := zs_if_eq (tgt := 153) C dX5_rows_145 (by decide) h153 h148
    have h142 := zs_sI C dX5_rows_142 (m_X5_has N) zw_620 ⟨Nat.le_of_ble_eq_true rfl, Nat.le_of_ble_eq_true rfl⟩ h145
    have h140 := zs_iload (i := 9) C dX5_rows_140 h142
    have h138 := zs_iload (i := 7) C dX5_rows_138 h140
    have h136 := zs_iload (i := 9) C dX5_rows_136 h138
    have h133 := zs_gR C dX5_rows_133 zf_5_1 zw_544 h136
    have h132 := zs_aload_n (i := 0) C dX5_rows_132 rfl h133
    have h130 := zs_istore (i := 8) C dX5_rows_130 h132
    have h129 := zs_imul C dX5_rows_129 h130
    have h128 := zs_isub C dX5_rows_128 h129
    have h127 := zs_iload_n (i := 2) C dX5_rows_127 rfl h128
    have h125 := zs_bipush (v := 10) C dX5_rows_125 (by decide) h127
    have h122 := zs_goto (tgt := 129) C dX5_rows_122 (by decide) h129
    have h121 := zs_iload_n (i := 2) C dX5_rows_121 rfl h122
    have h118 := zs_if_eq (tgt := 125) C dX5_rows_118 (by decide) h125 h121
    have h115 := zs_sI C dX5_rows_115 (m_X5_has N) zw_620 ⟨Nat.le_of_ble_eq_true rfl, Nat.le_of_ble_eq_true rfl⟩ h118
    have h113 := zs_iload (i := 9) C dX5_rows_113 h115
    have h111 := zs_iload (i := 7) C dX5_rows_111 h113
    have h109 := zs_iload (i := 8) C dX5_rows_109 h111
    have h106 := zs_if_eq (tgt := 157) C dX5_rows_106 (by decide) h157 h109
    have h103 := zs_sI C dX5_rows_103 (m_X5_has N) zw_620 ⟨Nat.le_of_ble_eq_true rfl, Nat.le_of_ble_eq_true rfl⟩ h106
    have h101 := zs_iload (i := 9) C dX5_rows_101 h103
    have h99 := zs_iload (i := 4) C dX5_rows_99 h101
    have h96 := zs_if_le (tgt := 163) C dX5_rows_96 (by decide) hx h99
    have h94 := zs_iload (i := 8) C dX5_rows_94 h96
    have h91 := zs_icmp_ge (tgt := 163) C dX5_rows_91 (by decide) hx h94
    have h90 := zs_iald (n := 32) C dX5_rows_90 (by decide) h91
    have h89 := zs_iconst (v := 0) C dX5_rows_89 (by decide) h90
    have h86 := zs_gR C dX5_rows_86 zf_5_0 zw_543 h89
    have h85 := zs_aload_n (i := 0) C dX5_rows_85 rfl h86
    have h83 := zs_iload (i := 9) C dX5_rows_83 h85
    intro H locs ls L st μ r h hL hst hW hS
    obtain ⟨x0, x1, x2, x3, x4, x5, x6, x7, x8, x9, rfl, rfl, h⟩ := k_X5_rows_L83_i h
    exact h83 H locs ls [some (.inr (.inr (5, x0))), some (.inl x1), some (.inl x2), some (.inl x3), some (.inl x4), some (.inl x5), some (.inl x6), some (.inl x7), some (.inl x8), some (.inl x9)] [] μ r h (hL.less ⟨rfl, rfl, rfl, rfl, rfl, rfl, rfl, rfl, rfl, rfl, trivial⟩) hst hW hS
def f_X5_rows_L250 (N : Nat) : Nat → Int32 → Int32 → Int32 → Int32 → Int32 → ZM → Option (Int32 × ZM)
  | 0, _, _, _, _, _, _ => none
  | n + 1, x3, x5, x6, x7, x8, μ =>
    if x8 = 0 then
      if ¬ x3 = 0 then
        if x7 = 0 then none else
        some ((x6 / x7), μ)
      else
        if x7 = 0 then none else
        some ((x5 / x7), μ)
    else
      if x8 = 0 then none else
      f_X5_rows_L250 N n x3 x5 x6 x8 (x7 - x7 / x8 * x8) μ
def k_X5_rows_L250 (N n : Nat) : ZK (Int32 × ZM) := fun L st μ => match L, st with
  | [_, _, _, some (.inl x3), _, some (.inl x5), some (.inl x6), some (.inl x7), some (.inl x8), _], [] => f_X5_rows_L250 N n x3 x5 x6 x7 x8 μ
  | _, _ => none
theorem k_X5_rows_L250_i {N : Nat} {n : Nat} {L : ZL} {st : List ZV} {μ : ZM} {r : Int32 × ZM} (h : k_X5_rows_L250 N n L st μ = some r) : ∃ (x3 : Int32) (x5 : Int32) (x6 : Int32) (x7 : Int32) (x8 : Int32) (u0 : Option ZV) (u1 : Option ZV) (u2 : Option ZV) (u4 : Option ZV) (u9 : Option ZV), L = [u0, u1, u2, some (.inl x3), u4, some (.inl x5), some (.inl x6), some (.inl x7), some (.inl x8), u9] ∧ st = [] ∧ f_X5_rows_L250 N n x3 x5 x6 x7 x8 μ = some r := by
  unfold k_X5_rows_L250 at h
  split at h
  · exact ⟨_, _, _, _, _, _, _, _, _, _, rfl, rfl, h⟩
  · cases h
set_option maxRecDepth 100000 in
theorem s_X5_rows_L250 (N : Nat) {X : ZX} {E : ZE} (C : zk_X X E RX5 cX5_rows 10 (some .int) ({ frames := 4, cells := 0, slots := 0, locals := 86 } : Room)) : ∀ n, zk_S X E 10 zq_I 250 (k_X5_rows_L250 N n) := by
  intro n
  induction n with
  | zero =>
    intro H locs ls L st μ r h hL hst hW hS
    obtain ⟨x3, x5, x6, x7, x8, u0, u1, u2, u4, u9, rfl, rfl, h⟩ := k_X5_rows_L250_i h
    exact nomatch (show none = some r from h)
  | succ n ih =>
    have h290 := zs_iret C dX5_rows_290
    have h289 := zs_idiv C dX5_rows_289 h290
    have h287 := zs_iload (i := 7) C dX5_rows_287 h289
    have h285 := zs_iload (i := 6) C dX5_rows_285 h287
    have h282 := zs_goto (tgt := 290) C dX5_rows_282 (by decide) h290
    have h281 := zs_idiv C dX5_rows_281 h282
    have h279 := zs_iload (i := 7) C dX5_rows_279 h281
    have h277 := zs_iload (i := 5) C dX5_rows_277 h279
    have h274 := zs_if_ne (tgt := 285) C dX5_rows_274 (by decide) h285 h277
    have h273 := zs_iload_n (i := 3) C dX5_rows_273 rfl h274
    have h270 := zs_goto (tgt := 250) C dX5_rows_270 (by decide) ih
    have h268 := zs_istore (i := 8) C dX5_rows_268 h270
    have h266 := zs_iload (i := 9) C dX5_rows_266 h268
    have h264 := zs_istore (i := 7) C dX5_rows_264 h266
    have h262 := zs_iload (i := 8) C dX5_rows_262 h264
    have h260 := zs_istore (i := 9) C dX5_rows_260 h262
    have h259 := zs_irem C dX5_rows_259 h260
    have h257 := zs_iload (i := 8) C dX5_rows_257 h259
    have h255 := zs_iload (i := 7) C dX5_rows_255 h257
    have h252 := zs_if_eq (tgt := 273) C dX5_rows_252 (by decide) h273 h255
    have h250 := zs_iload (i := 8) C dX5_rows_250 h252
    intro H locs ls L st μ r h hL hst hW hS
    obtain ⟨x3, x5, x6, x7, x8, u0, u1, u2, u4, u9, rfl, rfl, h⟩ := k_X5_rows_L250_i h
    exact h250 H locs ls [none, none, none, some (.inl x3), none, some (.inl x5), some (.inl x6), some (.inl x7), some (.inl x8), none] [] μ r h (hL.less ⟨rfl, rfl, rfl, rfl, rfl, trivial⟩) hst hW hS
def f_X5_rows_L204 (N : Nat) : Nat → Nat → Int32 → Int32 → Int32 → Int32 → Int32 → ZM → Option (Int32 × ZM)
  | 0, _, _, _, _, _, _, _ => none
  | n + 1, x0, x3, x4, x5, x6, x7, μ =>
    if (μ.1 (x0 + 1) 0) ≤ x7 then
      f_X5_rows_L250 N N x3 x5 x6 x5 x6 μ
    else
      (f_X5_has N x4 x7 μ).bind fun r1 =>
      let j233 : Int32 → Option (Int32 × ZM) := fun b2 =>
        f_X5_rows_L204 N n x0 x3 x4 x5 (x6 * b2) (x7 + 1) r1.2
      if r1.1 = 0 then
        j233 1
      else
        j233 10
def k_X5_rows_L204 (N n : Nat) : ZK (Int32 × ZM) := fun L st μ => match L, st with
  | [some (.inr (.inr (5, x0))), _, _, some (.inl x3), some (.inl x4), some (.inl x5), some (.inl x6), some (.inl x7), _, _], [] => f_X5_rows_L204 N n x0 x3 x4 x5 x6 x7 μ
  | _, _ => none
theorem k_X5_rows_L204_i {N : Nat} {n : Nat} {L : ZL} {st : List ZV} {μ : ZM} {r : Int32 × ZM} (h : k_X5_rows_L204 N n L st μ = some r) : ∃ (x0 : Nat) (x3 : Int32) (x4 : Int32) (x5 : Int32) (x6 : Int32) (x7 : Int32) (u1 : Option ZV) (u2 : Option ZV) (u8 : Option ZV) (u9 : Option ZV), L = [some (.inr (.inr (5, x0))), u1, u2, some (.inl x3), some (.inl x4), some (.inl x5), some (.inl x6), some (.inl x7), u8, u9] ∧ st = [] ∧ f_X5_rows_L204 N n x0 x3 x4 x5 x6 x7 μ = some r := by
  unfold k_X5_rows_L204 at h
  split at h
  · exact ⟨_, _, _, _, _, _, _, _, _, _, rfl, rfl, h⟩
  · cases h
set_option maxRecDepth 100000 in
theorem s_X5_rows_L204 (N : Nat) {X : ZX} {E : ZE} (C : zk_X X E RX5 cX5_rows 10 (some .int) ({ frames := 4, cells := 0, slots := 0, locals := 86 } : Room)) : ∀ n, zk_S X E 10 zq_I 204 (k_X5_rows_L204 N n) := by
  intro n
  induction n with
  | zero =>
    intro H locs ls L st μ r h hL hst hW hS
    obtain ⟨x0, x3, x4, x5, x6, x7, u1, u2, u8, u9, rfl, rfl, h⟩ := k_X5_rows_L204_i h
    exact nomatch (show none = some r from h)
  | succ n ih =>
    have e250 := s_X5_rows_L250 N C N
    have h248 := zs_istore (i := 8) C dX5_rows_248 e250
    have h246 := zs_iload (i := 6) C dX5_rows_246 h248
    have h244 := zs_istore (i := 7) C dX5_rows_244 h246
    have h242 := zs_iload (i := 5) C dX5_rows_242 h244
    have h239 := zs_goto (tgt := 204) C dX5_rows_239 (by decide) ih
    have h236 := zs_iinc (n := 1) C dX5_rows_236 (by decide) h239
    have h234 := zs_istore (i := 6) C dX5_rows_234 h236
    have h233 := zs_imul C dX5_rows_233 h234
    have h232 := zs_iconst (v := 1) C dX5_rows_232 (by decide) h233
    have h229 := zs_goto (tgt := 233) C dX5_rows_229 (by decide) h233
    have h227 := zs_bipush (v := 10) C dX5_rows_227 (by decide) h229
    have h224 := zs_if_eq (tgt := 232) C dX5_rows_224 (by decide) h232 h227
    have h221 := zs_sI C dX5_rows_221 (m_X5_has N) zw_620 ⟨Nat.le_of_ble_eq_true rfl, Nat.le_of_ble_eq_true rfl⟩ h224
    have h219 := zs_iload (i := 7) C dX5_rows_219 h221
    have h217 := zs_iload (i := 4) C dX5_rows_217 h219
    have h215 := zs_iload (i := 6) C dX5_rows_215 h217
    have h212 := zs_icmp_ge (tgt := 242) C dX5_rows_212 (by decide) h242 h215
    have h211 := zs_iald (n := 32) C dX5_rows_211 (by decide) h212
    have h210 := zs_iconst (v := 0) C dX5_rows_210 (by decide) h211
    have h207 := zs_gR C dX5_rows_207 zf_5_0 zw_543 h210
    have h206 := zs_aload_n (i := 0) C dX5_rows_206 rfl h207
    have h204 := zs_iload (i := 7) C dX5_rows_204 h206
    intro H locs ls L st μ r h hL hst hW hS
    obtain ⟨x0, x3, x4, x5, x6, x7, u1, u2, u8, u9, rfl, rfl, h⟩ := k_X5_rows_L204_i h
    exact h204 H locs ls [some (.inr (.inr (5, x0))), none, none, some (.inl x3), some (.inl x4), some (.inl x5), some (.inl x6), some (.inl x7), none, none] [] μ r h (hL.less ⟨rfl, rfl, rfl, rfl, rfl, rfl, trivial⟩) hst hW hS
def f_X5_rows_L52 (N : Nat) : Nat → Nat → Int32 → Int32 → Int32 → Int32 → Int32 → Int32 → Int32 → ZM → Option (Int32 × ZM)
  | 0, _, _, _, _, _, _, _, _, _ => none
  | n + 1, x0, x1, x2, x3, x4, x5, x6, x7, μ =>
    if x4 < x7 then
      f_X5_rows_L204 N N x0 x3 x4 x5 x6 0 μ
    else
      let j74 : Int32 → Option (Int32 × ZM) := fun b1 =>
        (f_X5_take N x0 μ).bind fun r2 =>
        f_X5_rows_L83 N (fun a3 a4 a5 a6 a7 a8 a9 a10 a11 μ12 =>
          (f_X5_keysOf N (a3 + 2) μ12).bind fun r13 =>
          let j183 : Int32 → Option (Int32 × ZM) := fun b14 =>
            let j192 : Int32 → Option (Int32 × ZM) := fun b15 =>
              f_X5_rows_L52 N n a3 a4 a5 a6 a7 (a8 + b15) a9 (a10 + 1) r13.2
            if ¬ r13.1 = b14 then
              j192 0
            else
              j192 a11
          if ¬ a4 = (-1 : Int32) then
            j183 a4
          else
            j183 (-4)) N x0 x1 x2 x3 x4 x5 x6 x7 b1 0 r2
      if ¬ (x7 &&& (x4 ^^^ (-1))) = 0 then
        j74 0
      else
        j74 1
def k_X5_rows_L52 (N n : Nat) : ZK (Int32 × ZM) := fun L st μ => match L, st with
  | [some (.inr (.inr (5, x0))), some (.inl x1), some (.inl x2), some (.inl x3), some (.inl x4), some (.inl x5), some (.inl x6), some (.inl x7), _, _], [] => f_X5_rows_L52 N n x0 x1 x2 x3 x4 x5 x6 x7 μ
  | _, _ => none
theorem k_X5_rows_L52_i {N : Nat} {n : Nat} {L : ZL} {st : List ZV} {μ : ZM} {r : Int32 × ZM} (h : k_X5_rows_L52 N n L st μ = some r) : ∃ (x0 : Nat) (x1 : Int32) (x2 : Int32) (x3 : Int32) (x4 : Int32) (x5 : Int32) (x6 : Int32) (x7 : Int32) (u8 : Option ZV) (u9 : Option ZV), L = [some (.inr (.inr (5, x0))), some (.inl x1), some (.inl x2), some (.inl x3), some (.inl x4), some (.inl x5), some (.inl x6), some (.inl x7), u8, u9] ∧ st = [] ∧ f_X5_rows_L52 N n x0 x1 x2 x3 x4 x5 x6 x7 μ = some r := by
  unfold k_X5_rows_L52 at h
  split at h
  · exact ⟨_, _, _, _, _, _, _, _, _, _, rfl, rfl, h⟩
  · cases h
set_option maxRecDepth 100000 in
theorem s_X5_rows_L52 (N : Nat) {X : ZX} {E : ZE} (C : zk_X X E RX5 cX5_rows 10 (some .int) ({ frames := 4, cells := 0, slots := 0, locals := 86 } : Room)) : ∀ n, zk_S X E 10 zq_I 52 (k_X5_rows_L52 N n) := by
  intro n
  induction n with
  | zero =>
    intro H locs ls L st μ r h hL hst hW hS
    obtain ⟨x0, x1, x2, x3, x4, x5, x6, x7, u8, u9, rfl, rfl, h⟩ := k_X5_rows_L52_i h
    exact nomatch (show none = some r from h)
  | succ n ih =>
    have e204 := s_X5_rows_L204 N C N
    have h202 := zs_istore (i := 7) C dX5_rows_202 e204
    have h201 := zs_iconst (v := 0) C dX5_rows_201 (by decide) h202
    have h198 := zs_goto (tgt := 52) C dX5_rows_198 (by decide) ih
    have h195 := zs_iinc (n := 1) C dX5_rows_195 (by decide) h198
    have h193 := zs_istore (i := 5) C dX5_rows_193 h195
    have h192 := zs_iadd C dX5_rows_192 h193
    have h191 := zs_iconst (v := 0) C dX5_rows_191 (by decide) h192
    have h188 := zs_goto (tgt := 192) C dX5_rows_188 (by decide) h192
    have h186 := zs_iload (i := 8) C dX5_rows_186 h188
    have h183 := zs_icmp_ne (tgt := 191) C dX5_rows_183 (by decide) h191 h186
    have h182 := zs_iload_n (i := 1) C dX5_rows_182 rfl h183
    have h179 := zs_goto (tgt := 183) C dX5_rows_179 (by decide) h183
    have h177 := zs_bipush (v := (-4)) C dX5_rows_177 (by decide) h179
    have h174 := zs_icmp_ne (tgt := 182) C dX5_rows_174 (by decide) h182 h177
    have h173 := zs_iconst (v := (-1)) C dX5_rows_173 (by decide) h174
    have h172 := zs_iload_n (i := 1) C dX5_rows_172 rfl h173
    have h169 := zs_sI C dX5_rows_169 (m_X5_keysOf N) zw_626 ⟨Nat.le_of_ble_eq_true rfl, Nat.le_of_ble_eq_true rfl⟩ h172
    have h166 := zs_gR C dX5_rows_166 zf_5_1 zw_544 h169
    have h165 := zs_aload_n (i := 0) C dX5_rows_165 rfl h166
    have h163 := zs_iload (i := 5) C dX5_rows_163 h165
    have e83 := s_X5_rows_L83 N C h163 N
    have h81 := zs_istore (i := 9) C dX5_rows_81 e83
    have h80 := zs_iconst (v := 0) C dX5_rows_80 (by decide) h81
    have h77 := zs_vV C dX5_rows_77 (m_X5_take N) zw_723 ⟨Nat.le_of_ble_eq_true rfl, Nat.le_of_ble_eq_true rfl⟩ h80
    have h76 := zs_aload_n (i := 0) C dX5_rows_76 rfl h77
    have h74 := zs_istore (i := 8) C dX5_rows_74 h76
    have h73 := zs_iconst (v := 0) C dX5_rows_73 (by decide) h74
    have h70 := zs_goto (tgt := 74) C dX5_rows_70 (by decide) h74
    have h69 := zs_iconst (v := 1) C dX5_rows_69 (by decide) h70
    have h66 := zs_if_ne (tgt := 73) C dX5_rows_66 (by decide) h73 h69
    have h65 := zs_iand C dX5_rows_65 h66
    have h64 := zs_ixor C dX5_rows_64 h65
    have h63 := zs_iconst (v := (-1)) C dX5_rows_63 (by decide) h64
    have h61 := zs_iload (i := 4) C dX5_rows_61 h63
    have h59 := zs_iload (i := 7) C dX5_rows_59 h61
    have h56 := zs_icmp_gt (tgt := 201) C dX5_rows_56 (by decide) h201 h59
    have h54 := zs_iload (i := 4) C dX5_rows_54 h56
    have h52 := zs_iload (i := 7) C dX5_rows_52 h54
    intro H locs ls L st μ r h hL hst hW hS
    obtain ⟨x0, x1, x2, x3, x4, x5, x6, x7, u8, u9, rfl, rfl, h⟩ := k_X5_rows_L52_i h
    exact h52 H locs ls [some (.inr (.inr (5, x0))), some (.inl x1), some (.inl x2), some (.inl x3), some (.inl x4), some (.inl x5), some (.inl x6), some (.inl x7), none, none] [] μ r h (hL.less ⟨rfl, rfl, rfl, rfl, rfl, rfl, rfl, rfl, trivial⟩) hst hW hS
def f_X5_rows_J13 (N : Nat) (x0 : Nat) (x1 : Int32) (x2 : Int32) (x3 : Int32) (μ : ZM) : Option (Int32 × ZM) :=
  (f_X5_in N x2 0 10 μ).bind fun r1 =>
  if r1.1 = 0 then
    some ((-1), r1.2)
  else
    (f_X5_in N x3 0 1 r1.2).bind fun r2 =>
    if ¬ r2.1 = 0 then
      (f_X5_togetherOf N (x0 + 1) r2.2).bind fun r3 =>
      f_X5_rows_L52 N N x0 x1 x2 x3 r3.1 0 1 0 r3.2
    else
      some ((-1), r2.2)
def k_X5_rows_J13 (N : Nat) : ZK (Int32 × ZM) := fun L st μ => match L, st with
  | [some (.inr (.inr (5, x0))), some (.inl x1), some (.inl x2), some (.inl x3), _, _, _, _, _, _], [] => f_X5_rows_J13 N x0 x1 x2 x3 μ
  | _, _ => none
theorem k_X5_rows_J13_i {N : Nat} {L : ZL} {st : List ZV} {μ : ZM} {r : Int32 × ZM} (h : k_X5_rows_J13 N L st μ = some r) : ∃ (x0 : Nat) (x1 : Int32) (x2 : Int32) (x3 : Int32) (u4 : Option ZV) (u5 : Option ZV) (u6 : Option ZV) (u7 : Option ZV) (u8 : Option ZV) (u9 : Option ZV), L = [some (.inr (.inr (5, x0))), some (.inl x1), some (.inl x2), some (.inl x3), u4, u5, u6, u7, u8, u9] ∧ st = [] ∧ f_X5_rows_J13 N x0 x1 x2 x3 μ = some r := by
  unfold k_X5_rows_J13 at h
  split at h
  · exact ⟨_, _, _, _, _, _, _, _, _, _, rfl, rfl, h⟩
  · cases h
set_option maxRecDepth 100000 in
theorem s_X5_rows_J13 (N : Nat) {X : ZX} {E : ZE} (C : zk_X X E RX5 cX5_rows 10 (some .int) ({ frames := 4, cells := 0, slots := 0, locals := 86 } : Room)) : zk_S X E 10 zq_I 13 (k_X5_rows_J13 N) := by
  have e52 := s_X5_rows_L52 N C N
  have h50 := zs_istore (i := 7) C dX5_rows_50 e52
  have h49 := zs_iconst (v := 0) C dX5_rows_49 (by decide) h50
  have h47 := zs_istore (i := 6) C dX5_rows_47 h49
  have h46 := zs_iconst (v := 1) C dX5_rows_46 (by decide) h47
  have h44 := zs_istore (i := 5) C dX5_rows_44 h46
  have h43 := zs_iconst (v := 0) C dX5_rows_43 (by decide) h44
  have h41 := zs_istore (i := 4) C dX5_rows_41 h43
  have h38 := zs_sI C dX5_rows_38 (m_X5_togetherOf N) zw_667 ⟨Nat.le_of_ble_eq_true rfl, Nat.le_of_ble_eq_true rfl⟩ h41
  have h35 := zs_gR C dX5_rows_35 zf_5_0 zw_543 h38
  have h34 := zs_aload_n (i := 0) C dX5_rows_34 rfl h35
  have h33 := zs_iret C dX5_rows_33
  have h32 := zs_iconst (v := (-1)) C dX5_rows_32 (by decide) h33
  have h29 := zs_if_ne (tgt := 34) C dX5_rows_29 (by decide) h34 h32
  have h26 := zs_sI C dX5_rows_26 (m_X5_in N) zw_603 ⟨Nat.le_of_ble_eq_true rfl, Nat.le_of_ble_eq_true rfl⟩ h29
  have h25 := zs_iconst (v := 1) C dX5_rows_25 (by decide) h26
  have h24 := zs_iconst (v := 0) C dX5_rows_24 (by decide) h25
  have h23 := zs_iload_n (i := 3) C dX5_rows_23 rfl h24
  have h20 := zs_if_eq (tgt := 32) C dX5_rows_20 (by decide) h32 h23
  have h17 := zs_sI C dX5_rows_17 (m_X5_in N) zw_603 ⟨Nat.le_of_ble_eq_true rfl, Nat.le_of_ble_eq_true rfl⟩ h20
  have h15 := zs_bipush (v := 10) C dX5_rows_15 (by decide) h17
  have h14 := zs_iconst (v := 0) C dX5_rows_14 (by decide) h15
  have h13 := zs_iload_n (i := 2) C dX5_rows_13 rfl h14
  intro H locs ls L st μ r h hL hst hW hS
  obtain ⟨x0, x1, x2, x3, u4, u5, u6, u7, u8, u9, rfl, rfl, h⟩ := k_X5_rows_J13_i h
  exact h13 H locs ls [some (.inr (.inr (5, x0))), some (.inl x1), some (.inl x2), some (.inl x3), none, none, none, none, none, none] [] μ r h (hL.less ⟨rfl, rfl, rfl, rfl, trivial⟩) hst hW hS
def f_X5_rows (N : Nat) (x0 : Nat) (x1 : Int32) (x2 : Int32) (x3 : Int32) (μ : ZM) : Option (Int32 × ZM) :=
  if x1 = (-1 : Int32) then
    f_X5_rows_J13 N x0 x1 x2 x3 μ
  else
    (f_X5_isCouple N x0 x1 μ).bind fun r1 =>
    if r1.1 = 0 then
      some ((-1), r1.2)
    else
      f_X5_rows_J13 N x0 x1 x2 x3 r1.2
def g_X5_rows (N : Nat) (as : List ZV) (μ : ZM) : Option (Int32 × ZM) := match as with
  | [.inr (.inr (5, x0)), .inl x1, .inl x2, .inl x3] => f_X5_rows N x0 x1 x2 x3 μ
  | _ => none
theorem g_X5_rows_i {N : Nat} {as : List ZV} {μ : ZM} {r : Int32 × ZM} (h : g_X5_rows N as μ = some r) : ∃ (x0 : Nat) (x1 : Int32) (x2 : Int32) (x3 : Int32), as = [.inr (.inr (5, x0)), .inl x1, .inl x2, .inl x3] ∧ f_X5_rows N x0 x1 x2 x3 μ = some r := by
  unfold g_X5_rows at h
  split at h
  · exact ⟨_, _, _, _, rfl, h⟩
  · cases h
set_option maxRecDepth 100000 in
theorem c_X5_rows (N : Nat) : zk_C yX5_rows cX5_rows 10 (some .int) ({ frames := 4, cells := 0, slots := 0, locals := 86 } : Room) zq_I (g_X5_rows N) := by
  refine zk_met ?κ (by decide +kernel) ?hG ?body
  case body =>
    intro X E C
    have C : zk_X X E RX5 cX5_rows 10 (some .int) ({ frames := 4, cells := 0, slots := 0, locals := 86 } : Room) := C
    have e13 := s_X5_rows_J13 N C
    have h33 := zs_iret C dX5_rows_33
    have h32 := zs_iconst (v := (-1)) C dX5_rows_32 (by decide) h33
    have h10 := zs_if_eq (tgt := 32) C dX5_rows_10 (by decide) h32 e13
    have h7 := zs_vI C dX5_rows_7 (m_X5_isCouple N) zw_613 ⟨Nat.le_of_ble_eq_true rfl, Nat.le_of_ble_eq_true rfl⟩ h10
    have h6 := zs_iload_n (i := 1) C dX5_rows_6 rfl h7
    have h5 := zs_aload_n (i := 0) C dX5_rows_5 rfl h6
    have h2 := zs_icmp_eq (tgt := 13) C dX5_rows_2 (by decide) e13 h5
    have h1 := zs_iconst (v := (-1)) C dX5_rows_1 (by decide) h2
    have h0 := zs_iload_n (i := 1) C dX5_rows_0 rfl h1
    exact h0
  case hG =>
    intro as μ r h
    obtain ⟨x0, x1, x2, x3, rfl, h⟩ := g_X5_rows_i h
    exact ⟨Nat.le_of_ble_eq_true rfl, h⟩
theorem m_X5_rows (N : Nat) : zk_MV yX5_rows cX5_rows 10 (some .int) ({ frames := 4, cells := 0, slots := 0, locals := 86 } : Room) zq_I (g_X5_rows N) 3 5 := ⟨c_X5_rows N, zw_777, zw_775, zw_776, zw_31, rfl, rfl, by decide +kernel, by decide, ⟨TX5, 18, rfl⟩, fun as μ r h => by obtain ⟨x0, x1, x2, x3, rfl, -⟩ := g_X5_rows_i h; exact ⟨_, _, rfl⟩⟩
-- LongestWedModel.image()I
def f_X5_image_L28 (N : Nat) : Nat → Nat → Int32 → ZM → Option (Int32 × ZM)
  | 0, _, _, _ => none
  | n + 1, x0, x1, μ =>
    if (256 : Int32) ≤ x1 then
      let μ1 := zk_si μ x0 6 (μ.1 x0 3)
      let μ2 := zk_si μ1 x0 7 1
      some (1, μ2)
    else
      if zk_o x1 256 = true then none else
      if zk_o x1 256 = true then none else
      let μ3 := zk_si μ (x0 + 5) (Int32.toNatClampNeg x1) (μ.1 (x0 + 3) (Int32.toNatClampNeg x1))
      f_X5_image_L28 N n x0 (x1 + 1) μ3
def k_X5_image_L28 (N n : Nat) : ZK (Int32 × ZM) := fun L st μ => match L, st with
  | [some (.inr (.inr (5, x0))), some (.inl x1)], [] => f_X5_image_L28 N n x0 x1 μ
  | _, _ => none
theorem k_X5_image_L28_i {N : Nat} {n : Nat} {L : ZL} {st : List ZV} {μ : ZM} {r : Int32 × ZM} (h : k_X5_image_L28 N n L st μ = some r) : ∃ (x0 : Nat) (x1 : Int32), L = [some (.inr (.inr (5, x0))), some (.inl x1)] ∧ st = [] ∧ f_X5_image_L28 N n x0 x1 μ = some r := by
  unfold k_X5_image_L28 at h
  split at h
  · exact ⟨_, _, rfl, rfl, h⟩
  · cases h
set_option maxRecDepth 100000 in
theorem s_X5_image_L28 (N : Nat) {X : ZX} {E : ZE} (C : zk_X X E RX5 cX5_image 2 (some .int) ({ frames := 0, cells := 0, slots := 0, locals := 0 } : Room)) : ∀ n, zk_S X E 2 zq_I 28 (k_X5_image_L28 N n) := by
  intro n
  induction n with
  | zero =>
    intro H locs ls L st μ r h hL hst hW hS
    obtain ⟨x0, x1, rfl, rfl, h⟩ := k_X5_image_L28_i h
    exact nomatch (show none = some r from h)
  | succ n ih =>
    have h67 := zs_iret C dX5_image_67
    have h66 := zs_iconst (v := 1) C dX5_image_66 (by decide) h67
    have h63 := zs_pZ C dX5_image_63 zf_5_7 zw_550 rfl (by decide +kernel) h66
    have h62 := zs_iconst (v := 1) C dX5_image_62 (by decide) h63
    have h61 := zs_aload_n (i := 0) C dX5_image_61 rfl h62
    have h58 := zs_pI C dX5_image_58 zf_5_6 zw_549 rfl (by decide +kernel) h61
    have h55 := zs_gI C dX5_image_55 zf_5_3 zw_546 h58
    have h54 := zs_aload_n (i := 0) C dX5_image_54 rfl h55
    have h53 := zs_aload_n (i := 0) C dX5_image_53 rfl h54
    have h50 := zs_goto (tgt := 28) C dX5_image_50 (by decide) ih
    have h47 := zs_iinc (n := 1) C dX5_image_47 (by decide) h50
    have h46 := zs_iast (n := 256) C dX5_image_46 (by decide) h47
    have h45 := zs_iald (n := 256) C dX5_image_45 (by decide) h46
    have h44 := zs_iload_n (i := 1) C dX5_image_44 rfl h45
    have h41 := zs_gR C dX5_image_41 zf_5_2 zw_545 h44
    have h40 := zs_aload_n (i := 0) C dX5_image_40 rfl h41
    have h39 := zs_iload_n (i := 1) C dX5_image_39 rfl h40
    have h36 := zs_gR C dX5_image_36 zf_5_5 zw_548 h39
    have h35 := zs_aload_n (i := 0) C dX5_image_35 rfl h36
    have h32 := zs_icmp_ge (tgt := 53) C dX5_image_32 (by decide) h53 h35
    have h29 := zs_sipush (v := 256) C dX5_image_29 (by decide) h32
    have h28 := zs_iload_n (i := 1) C dX5_image_28 rfl h29
    intro H locs ls L st μ r h hL hst hW hS
    obtain ⟨x0, x1, rfl, rfl, h⟩ := k_X5_image_L28_i h
    exact h28 H locs ls [some (.inr (.inr (5, x0))), some (.inl x1)] [] μ r h (hL.less ⟨rfl, rfl, trivial⟩) hst hW hS
def f_X5_image_L2 (N : Nat) : Nat → Nat → Int32 → ZM → Option (Int32 × ZM)
  | 0, _, _, _ => none
  | n + 1, x0, x1, μ =>
    if (32 : Int32) ≤ x1 then
      f_X5_image_L28 N N x0 0 μ
    else
      if zk_o x1 32 = true then none else
      if zk_o x1 32 = true then none else
      let μ1 := zk_si μ (x0 + 4) (Int32.toNatClampNeg x1) (μ.1 (x0 + 1) (Int32.toNatClampNeg x1))
      f_X5_image_L2 N n x0 (x1 + 1) μ1
def k_X5_image_L2 (N n : Nat) : ZK (Int32 × ZM) := fun L st μ => match L, st with
  | [some (.inr (.inr (5, x0))), some (.inl x1)], [] => f_X5_image_L2 N n x0 x1 μ
  | _, _ => none
theorem k_X5_image_L2_i {N : Nat} {n : Nat} {L : ZL} {st : List ZV} {μ : ZM} {r : Int32 × ZM} (h : k_X5_image_L2 N n L st μ = some r) : ∃ (x0 : Nat) (x1 : Int32), L = [some (.inr (.inr (5, x0))), some (.inl x1)] ∧ st = [] ∧ f_X5_image_L2 N n x0 x1 μ = some r := by
  unfold k_X5_image_L2 at h
  split at h
  · exact ⟨_, _, rfl, rfl, h⟩
  · cases h
set_option maxRecDepth 100000 in
theorem s_X5_image_L2 (N : Nat) {X : ZX} {E : ZE} (C : zk_X X E RX5 cX5_image 2 (some .int) ({ frames := 0, cells := 0, slots := 0, locals := 0 } : Room)) : ∀ n, zk_S X E 2 zq_I 2 (k_X5_image_L2 N n) := by
  intro n
  induction n with
  | zero =>
    intro H locs ls L st μ r h hL hst hW hS
    obtain ⟨x0, x1, rfl, rfl, h⟩ := k_X5_image_L2_i h
    exact nomatch (show none = some r from h)
  | succ n ih =>
    have e28 := s_X5_image_L28 N C N
    have h27 := zs_istore_n (i := 1) C dX5_image_27 rfl e28
    have h26 := zs_iconst (v := 0) C dX5_image_26 (by decide) h27
    have h23 := zs_goto (tgt := 2) C dX5_image_23 (by decide) ih
    have h20 := zs_iinc (n := 1) C dX5_image_20 (by decide) h23
    have h19 := zs_iast (n := 32) C dX5_image_19 (by decide) h20
    have h18 := zs_iald (n := 32) C dX5_image_18 (by decide) h19
    have h17 := zs_iload_n (i := 1) C dX5_image_17 rfl h18
    have h14 := zs_gR C dX5_image_14 zf_5_0 zw_543 h17
    have h13 := zs_aload_n (i := 0) C dX5_image_13 rfl h14
    have h12 := zs_iload_n (i := 1) C dX5_image_12 rfl h13
    have h9 := zs_gR C dX5_image_9 zf_5_4 zw_547 h12
    have h8 := zs_aload_n (i := 0) C dX5_image_8 rfl h9
    have h5 := zs_icmp_ge (tgt := 26) C dX5_image_5 (by decide) h26 h8
    have h3 := zs_bipush (v := 32) C dX5_image_3 (by decide) h5
    have h2 := zs_iload_n (i := 1) C dX5_image_2 rfl h3
    intro H locs ls L st μ r h hL hst hW hS
    obtain ⟨x0, x1, rfl, rfl, h⟩ := k_X5_image_L2_i h
    exact h2 H locs ls [some (.inr (.inr (5, x0))), some (.inl x1)] [] μ r h (hL.less ⟨rfl, rfl, trivial⟩) hst hW hS
def f_X5_image (N : Nat) (x0 : Nat) (μ : ZM) : Option (Int32 × ZM) :=
  f_X5_image_L2 N N x0 0 μ
def g_X5_image (N : Nat) (as : List ZV) (μ : ZM) : Option (Int32 × ZM) := match as with
  | [.inr (.inr (5, x0))] => f_X5_image N x0 μ
  | _ => none
theorem g_X5_image_i {N : Nat} {as : List ZV} {μ : ZM} {r : Int32 × ZM} (h : g_X5_image N as μ = some r) : ∃ (x0 : Nat), as = [.inr (.inr (5, x0))] ∧ f_X5_image N x0 μ = some r := by
  unfold g_X5_image at h
  split at h
  · exact ⟨_, rfl, h⟩
  · cases h
set_option maxRecDepth 100000 in
theorem c_X5_image (N : Nat) : zk_C yX5_image cX5_image 2 (some .int) ({ frames := 0, cells := 0, slots := 0, locals := 0 } : Room) zq_I (g_X5_image N) := by
  refine zk_met ?κ (by decide +kernel) ?hG ?body
  case body =>
    intro X E C
    have C : zk_X X E RX5 cX5_image 2 (some .int) ({ frames := 0, cells := 0, slots := 0, locals := 0 } : Room) := C
    have e2 := s_X5_image_L2 N C N
    have h1 := zs_istore_n (i := 1) C dX5_image_1 rfl e2
    have h0 := zs_iconst (v := 0) C dX5_image_0 (by decide) h1
    exact h0
  case hG =>
    intro as μ r h
    obtain ⟨x0, rfl, h⟩ := g_X5_image_i h
    exact ⟨Nat.le_of_ble_eq_true rfl, h⟩
theorem m_X5_image (N : Nat) : zk_MV yX5_image cX5_image 2 (some .int) ({ frames := 0, cells := 0, slots := 0, locals := 0 } : Room) zq_I (g_X5_image N) 0 5 := ⟨c_X5_image N, zw_781, zw_779, zw_780, zw_31, rfl, rfl, by decide +kernel, by decide, ⟨TX5, 18, rfl⟩, fun as μ r h => by obtain ⟨x0, rfl, -⟩ := g_X5_image_i h; exact ⟨_, _, rfl⟩⟩
-- LongestWedModel.restore()I
def f_X5_restore_L38 (N : Nat) : Nat → Nat → Int32 → ZM → Option (Int32 × ZM)
  | 0, _, _, _ => none
  | n + 1, x0, x1, μ =>
    if (256 : Int32) ≤ x1 then
      let μ1 := zk_si μ x0 3 (μ.1 x0 6)
      some (1, μ1)
    else
      if zk_o x1 256 = true then none else
      if zk_o x1 256 = true then none else
      let μ2 := zk_si μ (x0 + 3) (Int32.toNatClampNeg x1) (μ.1 (x0 + 5) (Int32.toNatClampNeg x1))
      f_X5_restore_L38 N n x0 (x1 + 1) μ2
def k_X5_restore_L38 (N n : Nat) : ZK (Int32 × ZM) := fun L st μ => match L, st with
  | [some (.inr (.inr (5, x0))), some (.inl x1)], [] => f_X5_restore_L38 N n x0 x1 μ
  | _, _ => none
theorem k_X5_restore_L38_i {N : Nat} {n : Nat} {L : ZL} {st : List ZV} {μ : ZM} {r : Int32 × ZM} (h : k_X5_restore_L38 N n L st μ = some r) : ∃ (x0 : Nat) (x1 : Int32), L = [some (.inr (.inr (5, x0))), some (.inl x1)] ∧ st = [] ∧ f_X5_restore_L38 N n x0 x1 μ = some r := by
  unfold k_X5_restore_L38 at h
  split at h
  · exact ⟨_, _, rfl, rfl, h⟩
  · cases h
set_option maxRecDepth 100000 in
theorem s_X5_restore_L38 (N : Nat) {X : ZX} {E : ZE} (C : zk_X X E RX5 cX5_restore 2 (some .int) ({ frames := 0, cells := 0, slots := 0, locals := 0 } : Room)) : ∀ n, zk_S X E 2 zq_I 38 (k_X5_restore_L38 N n) := by
  intro n
  induction n with
  | zero =>
    intro H locs ls L st μ r h hL hst hW hS
    obtain ⟨x0, x1, rfl, rfl, h⟩ := k_X5_restore_L38_i h
    exact nomatch (show none = some r from h)
  | succ n ih =>
    have h72 := zs_iret C dX5_restore_72
    have h71 := zs_iconst (v := 1) C dX5_restore_71 (by decide) h72
    have h68 := zs_pI C dX5_restore_68 zf_5_3 zw_546 rfl (by decide +kernel) h71
    have h65 := zs_gI C dX5_restore_65 zf_5_6 zw_549 h68
    have h64 := zs_aload_n (i := 0) C dX5_restore_64 rfl h65
    have h63 := zs_aload_n (i := 0) C dX5_restore_63 rfl h64
    have h60 := zs_goto (tgt := 38) C dX5_restore_60 (by decide) ih
    have h57 := zs_iinc (n := 1) C dX5_restore_57 (by decide) h60
    have h56 := zs_iast (n := 256) C dX5_restore_56 (by decide) h57
    have h55 := zs_iald (n := 256) C dX5_restore_55 (by decide) h56
    have h54 := zs_iload_n (i := 1) C dX5_restore_54 rfl h55
    have h51 := zs_gR C dX5_restore_51 zf_5_5 zw_548 h54
    have h50 := zs_aload_n (i := 0) C dX5_restore_50 rfl h51
    have h49 := zs_iload_n (i := 1) C dX5_restore_49 rfl h50
    have h46 := zs_gR C dX5_restore_46 zf_5_2 zw_545 h49
    have h45 := zs_aload_n (i := 0) C dX5_restore_45 rfl h46
    have h42 := zs_icmp_ge (tgt := 63) C dX5_restore_42 (by decide) h63 h45
    have h39 := zs_sipush (v := 256) C dX5_restore_39 (by decide) h42
    have h38 := zs_iload_n (i := 1) C dX5_restore_38 rfl h39
    intro H locs ls L st μ r h hL hst hW hS
    obtain ⟨x0, x1, rfl, rfl, h⟩ := k_X5_restore_L38_i h
    exact h38 H locs ls [some (.inr (.inr (5, x0))), some (.inl x1)] [] μ r h (hL.less ⟨rfl, rfl, trivial⟩) hst hW hS
def f_X5_restore_L12 (N : Nat) : Nat → Nat → Int32 → ZM → Option (Int32 × ZM)
  | 0, _, _, _ => none
  | n + 1, x0, x1, μ =>
    if (32 : Int32) ≤ x1 then
      f_X5_restore_L38 N N x0 0 μ
    else
      if zk_o x1 32 = true then none else
      if zk_o x1 32 = true then none else
      let μ1 := zk_si μ (x0 + 1) (Int32.toNatClampNeg x1) (μ.1 (x0 + 4) (Int32.toNatClampNeg x1))
      f_X5_restore_L12 N n x0 (x1 + 1) μ1
def k_X5_restore_L12 (N n : Nat) : ZK (Int32 × ZM) := fun L st μ => match L, st with
  | [some (.inr (.inr (5, x0))), some (.inl x1)], [] => f_X5_restore_L12 N n x0 x1 μ
  | _, _ => none
theorem k_X5_restore_L12_i {N : Nat} {n : Nat} {L : ZL} {st : List ZV} {μ : ZM} {r : Int32 × ZM} (h : k_X5_restore_L12 N n L st μ = some r) : ∃ (x0 : Nat) (x1 : Int32), L = [some (.inr (.inr (5, x0))), some (.inl x1)] ∧ st = [] ∧ f_X5_restore_L12 N n x0 x1 μ = some r := by
  unfold k_X5_restore_L12 at h
  split at h
  · exact ⟨_, _, rfl, rfl, h⟩
  · cases h
set_option maxRecDepth 100000 in
theorem s_X5_restore_L12 (N : Nat) {X : ZX} {E : ZE} (C : zk_X X E RX5 cX5_restore 2 (some .int) ({ frames := 0, cells := 0, slots := 0, locals := 0 } : Room)) : ∀ n, zk_S X E 2 zq_I 12 (k_X5_restore_L12 N n) := by
  intro n
  induction n with
  | zero =>
    intro H locs ls L st μ r h hL hst hW hS
    obtain ⟨x0, x1, rfl, rfl, h⟩ := k_X5_restore_L12_i h
    exact nomatch (show none = some r from h)
  | succ n ih =>
    have e38 := s_X5_restore_L38 N C N
    have h37 := zs_istore_n (i := 1) C dX5_restore_37 rfl e38
    have h36 := zs_iconst (v := 0) C dX5_restore_36 (by decide) h37
    have h33 := zs_goto (tgt := 12) C dX5_restore_33 (by decide) ih
    have h30 := zs_iinc (n := 1) C dX5_restore_30 (by decide) h33
    have h29 := zs_iast (n := 32) C dX5_restore_29 (by decide) h30
    have h28 := zs_iald (n := 32) C dX5_restore_28 (by decide) h29
    have h27 := zs_iload_n (i := 1) C dX5_restore_27 rfl h28
    have h24 := zs_gR C dX5_restore_24 zf_5_4 zw_547 h27
    have h23 := zs_aload_n (i := 0) C dX5_restore_23 rfl h24
    have h22 := zs_iload_n (i := 1) C dX5_restore_22 rfl h23
    have h19 := zs_gR C dX5_restore_19 zf_5_0 zw_543 h22
    have h18 := zs_aload_n (i := 0) C dX5_restore_18 rfl h19
    have h15 := zs_icmp_ge (tgt := 36) C dX5_restore_15 (by decide) h36 h18
    have h13 := zs_bipush (v := 32) C dX5_restore_13 (by decide) h15
    have h12 := zs_iload_n (i := 1) C dX5_restore_12 rfl h13
    intro H locs ls L st μ r h hL hst hW hS
    obtain ⟨x0, x1, rfl, rfl, h⟩ := k_X5_restore_L12_i h
    exact h12 H locs ls [some (.inr (.inr (5, x0))), some (.inl x1)] [] μ r h (hL.less ⟨rfl, rfl, trivial⟩) hst hW hS
def f_X5_restore (N : Nat) (x0 : Nat) (μ : ZM) : Option (Int32 × ZM) :=
  if ¬ (μ.1 x0 7) = 0 then
    f_X5_restore_L12 N N x0 0 μ
  else
    some ((-4), μ)
def g_X5_restore (N : Nat) (as : List ZV) (μ : ZM) : Option (Int32 × ZM) := match as with
  | [.inr (.inr (5, x0))] => f_X5_restore N x0 μ
  | _ => none
theorem g_X5_restore_i {N : Nat} {as : List ZV} {μ : ZM} {r : Int32 × ZM} (h : g_X5_restore N as μ = some r) : ∃ (x0 : Nat), as = [.inr (.inr (5, x0))] ∧ f_X5_restore N x0 μ = some r := by
  unfold g_X5_restore at h
  split at h
  · exact ⟨_, rfl, h⟩
  · cases h
set_option maxRecDepth 100000 in
theorem c_X5_restore (N : Nat) : zk_C yX5_restore cX5_restore 2 (some .int) ({ frames := 0, cells := 0, slots := 0, locals := 0 } : Room) zq_I (g_X5_restore N) := by
  refine zk_met ?κ (by decide +kernel) ?hG ?body
  case body =>
    intro X E C
    have C : zk_X X E RX5 cX5_restore 2 (some .int) ({ frames := 0, cells := 0, slots := 0, locals := 0 } : Room) := C
    have e12 := s_X5_restore_L12 N C N
    have h11 := zs_istore_n (i := 1) C dX5_restore_11 rfl e12
    have h10 := zs_iconst (v := 0) C dX5_restore_10 (by decide) h11
    have h9 := zs_iret C dX5_restore_9
    have h7 := zs_bipush (v := (-4)) C dX5_restore_7 (by decide) h9
    have h4 := zs_if_ne (tgt := 10) C dX5_restore_4 (by decide) h10 h7
    have h1 := zs_gI C dX5_restore_1 zf_5_7 zw_550 h4
    have h0 := zs_aload_n (i := 0) C dX5_restore_0 rfl h1
    exact h0
  case hG =>
    intro as μ r h
    obtain ⟨x0, rfl, h⟩ := g_X5_restore_i h
    exact ⟨Nat.le_of_ble_eq_true rfl, h⟩
theorem m_X5_restore (N : Nat) : zk_MV yX5_restore cX5_restore 2 (some .int) ({ frames := 0, cells := 0, slots := 0, locals := 0 } : Room) zq_I (g_X5_restore N) 0 5 := ⟨c_X5_restore N, zw_785, zw_783, zw_784, zw_31, rfl, rfl, by decide +kernel, by decide, ⟨TX5, 18, rfl⟩, fun as μ r h => by obtain ⟨x0, rfl, -⟩ := g_X5_restore_i h; exact ⟨_, _, rfl⟩⟩
-- LongestWedModel.findOf(IIII)I
def f_X5_findOf (N : Nat) (x0 : Nat) (x1 : Int32) (x2 : Int32) (x3 : Int32) (x4 : Int32) (μ : ZM) : Option (Int32 × ZM) :=
  if zk_o x1 4 = true then none else
  if ¬ (μ.1 (x0 + 8) (Int32.toNatClampNeg x1)) = 0 then
    if zk_o x1 4 = true then none else
    if (μ.1 (x0 + 8) (Int32.toNatClampNeg x1)) = (x2 + 1) then
      if x3 < 0 then
        some ((-13), μ)
      else
        if x4 < 0 then
          some ((-13), μ)
        else
          if zk_o x1 4 = true then none else
          if x3 ≤ ((μ.1 (x0 + 9) (Int32.toNatClampNeg x1)) - x4) then
            some (0, μ)
          else
            some ((-13), μ)
    else
      some ((-12), μ)
  else
    some ((-11), μ)
def g_X5_findOf (N : Nat) (as : List ZV) (μ : ZM) : Option (Int32 × ZM) := match as with
  | [.inr (.inr (5, x0)), .inl x1, .inl x2, .inl x3, .inl x4] => f_X5_findOf N x0 x1 x2 x3 x4 μ
  | _ => none
theorem g_X5_findOf_i {N : Nat} {as : List ZV} {μ : ZM} {r : Int32 × ZM} (h : g_X5_findOf N as μ = some r) : ∃ (x0 : Nat) (x1 : Int32) (x2 : Int32) (x3 : Int32) (x4 : Int32), as = [.inr (.inr (5, x0)), .inl x1, .inl x2, .inl x3, .inl x4] ∧ f_X5_findOf N x0 x1 x2 x3 x4 μ = some r := by
  unfold g_X5_findOf at h
  split at h
  · exact ⟨_, _, _, _, _, rfl, h⟩
  · cases h
set_option maxRecDepth 100000 in
theorem c_X5_findOf (N : Nat) : zk_C yX5_findOf cX5_findOf 5 (some .int) ({ frames := 0, cells := 0, slots := 0, locals := 0 } : Room) zq_I (g_X5_findOf N) := by
  refine zk_met ?κ (by decide +kernel) ?hG ?body
  case body =>
    intro X E C
    have C : zk_X X E RX5 cX5_findOf 5 (some .int) ({ frames := 0, cells := 0, slots := 0, locals := 0 } : Room) := C
    have h55 := zs_iret C dX5_findOf_55
    have h54 := zs_iconst (v := 0) C dX5_findOf_54 (by decide) h55
    have h51 := zs_goto (tgt := 55) C dX5_findOf_51 (by decide) h55
    have h49 := zs_bipush (v := (-13)) C dX5_findOf_49 (by decide) h51
    have h46 := zs_icmp_le (tgt := 54) C dX5_findOf_46 (by decide) h54 h49
    have h45 := zs_isub C dX5_findOf_45 h46
    have h43 := zs_iload (i := 4) C dX5_findOf_43 h45
    have h42 := zs_iald (n := 4) C dX5_findOf_42 (by decide) h43
    have h41 := zs_iload_n (i := 1) C dX5_findOf_41 rfl h42
    have h38 := zs_gR C dX5_findOf_38 zf_5_15 zw_558 h41
    have h37 := zs_aload_n (i := 0) C dX5_findOf_37 rfl h38
    have h36 := zs_iload_n (i := 3) C dX5_findOf_36 rfl h37
    have h33 := zs_if_lt (tgt := 49) C dX5_findOf_33 (by decide) h49 h36
    have h31 := zs_iload (i := 4) C dX5_findOf_31 h33
    have h28 := zs_if_lt (tgt := 49) C dX5_findOf_28 (by decide) h49 h31
    have h27 := zs_iload_n (i := 3) C dX5_findOf_27 rfl h28
    have h26 := zs_iret C dX5_findOf_26
    have h24 := zs_bipush (v := (-12)) C dX5_findOf_24 (by decide) h26
    have h21 := zs_icmp_eq (tgt := 27) C dX5_findOf_21 (by decide) h27 h24
    have h20 := zs_iadd C dX5_findOf_20 h21
    have h19 := zs_iconst (v := 1) C dX5_findOf_19 (by decide) h20
    have h18 := zs_iload_n (i := 2) C dX5_findOf_18 rfl h19
    have h17 := zs_iald (n := 4) C dX5_findOf_17 (by decide) h18
    have h16 := zs_iload_n (i := 1) C dX5_findOf_16 rfl h17
    have h13 := zs_gR C dX5_findOf_13 zf_5_14 zw_557 h16
    have h12 := zs_aload_n (i := 0) C dX5_findOf_12 rfl h13
    have h11 := zs_iret C dX5_findOf_11
    have h9 := zs_bipush (v := (-11)) C dX5_findOf_9 (by decide) h11
    have h6 := zs_if_ne (tgt := 12) C dX5_findOf_6 (by decide) h12 h9
    have h5 := zs_iald (n := 4) C dX5_findOf_5 (by decide) h6
    have h4 := zs_iload_n (i := 1) C dX5_findOf_4 rfl h5
    have h1 := zs_gR C dX5_findOf_1 zf_5_14 zw_557 h4
    have h0 := zs_aload_n (i := 0) C dX5_findOf_0 rfl h1
    exact h0
  case hG =>
    intro as μ r h
    obtain ⟨x0, x1, x2, x3, x4, rfl, h⟩ := g_X5_findOf_i h
    exact ⟨Nat.le_of_ble_eq_true rfl, h⟩
theorem m_X5_findOf (N : Nat) : zk_MV yX5_findOf cX5_findOf 5 (some .int) ({ frames := 0, cells := 0, slots := 0, locals := 0 } : Room) zq_I (g_X5_findOf N) 4 5 := ⟨c_X5_findOf N, zw_796, zw_795, zw_23, zw_31, rfl, rfl, by decide +kernel, by decide, ⟨TX5, 18, rfl⟩, fun as μ r h => by obtain ⟨x0, x1, x2, x3, x4, rfl, -⟩ := g_X5_findOf_i h; exact ⟨_, _, rfl⟩⟩
-- LongestWedModel.isHeard(IIII)Z
def f_X5_isHeard_L6 (N : Nat) : Nat → Nat → Int32 → Int32 → Int32 → Int32 → Int32 → Int32 → ZM → Option (Int32 × ZM)
  | 0, _, _, _, _, _, _, _, _ => none
  | n + 1, x0, x1, x2, x3, x4, x5, x6, μ =>
    if x4 ≤ x6 then
      zk_zr x5 μ
    else
      if x5 = 0 then
        zk_zr x5 μ
      else
        (f_X5_passOn N x0 (x0 + 2) μ).bind fun r1 =>
        if zk_o (((24 * x2) + x3) + x6) 96 = true then none else
        if zk_o (25 + x1) 32 = true then none else
        if ¬ (lg_cmp (r1.2 (x0 + 10) (Int32.toNatClampNeg (((24 * x2) + x3) + x6))) (Int32.toInt64 (r1.1 (x0 + 2) (Int32.toNatClampNeg (25 + x1))))) = 0 then
          f_X5_isHeard_L6 N n x0 x1 x2 x3 x4 0 (x6 + 1) r1
        else
          f_X5_isHeard_L6 N n x0 x1 x2 x3 x4 1 (x6 + 1) r1
def k_X5_isHeard_L6 (N n : Nat) : ZK (Int32 × ZM) := fun L st μ => match L, st with
  | [some (.inr (.inr (5, x0))), some (.inl x1), some (.inl x2), some (.inl x3), some (.inl x4), some (.inl x5), some (.inl x6)], [] => f_X5_isHeard_L6 N n x0 x1 x2 x3 x4 x5 x6 μ
  | _, _ => none
theorem k_X5_isHeard_L6_i {N : Nat} {n : Nat} {L : ZL} {st : List ZV} {μ : ZM} {r : Int32 × ZM} (h : k_X5_isHeard_L6 N n L st μ = some r) : ∃ (x0 : Nat) (x1 : Int32) (x2 : Int32) (x3 : Int32) (x4 : Int32) (x5 : Int32) (x6 : Int32), L = [some (.inr (.inr (5, x0))), some (.inl x1), some (.inl x2), some (.inl x3), some (.inl x4), some (.inl x5), some (.inl x6)] ∧ st = [] ∧ f_X5_isHeard_L6 N n x0 x1 x2 x3 x4 x5 x6 μ = some r := by
  unfold k_X5_isHeard_L6 at h
  split at h
  · exact ⟨_, _, _, _, _, _, _, rfl, rfl, h⟩
  · cases h
set_option maxRecDepth 100000 in
theorem s_X5_isHeard_L6 (N : Nat) {X : ZX} {E : ZE} (C : zk_X X E RX5 cX5_isHeard 7 (some .boolean) ({ frames := 7, cells := 0, slots := 0, locals := 155 } : Room)) : ∀ n, zk_S X E 7 zq_I 6 (k_X5_isHeard_L6 N n) := by
  intro n
  induction n with
  | zero =>
    intro H locs ls L st μ r h hL hst hW hS
    obtain ⟨x0, x1, x2, x3, x4, x5, x6, rfl, rfl, h⟩ := k_X5_isHeard_L6_i h
    exact nomatch (show none = some r from h)
  | succ n ih =>
    have h69 := zs_zret C dX5_isHeard_69
    have h67 := zs_iload (i := 5) C dX5_isHeard_67 h69
    have h64 := zs_goto (tgt := 6) C dX5_isHeard_64 (by decide) ih
    have h61 := zs_iinc (n := 1) C dX5_isHeard_61 (by decide) h64
    have h59 := zs_istore (i := 5) C dX5_isHeard_59 h61
    have h58 := zs_iconst (v := 0) C dX5_isHeard_58 (by decide) h59
    have h55 := zs_goto (tgt := 59) C dX5_isHeard_55 (by decide) h59
    have h54 := zs_iconst (v := 1) C dX5_isHeard_54 (by decide) h55
    have h51 := zs_if_ne (tgt := 58) C dX5_isHeard_51 (by decide) h58 h54
    have h50 := zs_lcmp C dX5_isHeard_50 h51
    have h49 := zs_i2l C dX5_isHeard_49 h50
    have h48 := zs_iald (n := 32) C dX5_isHeard_48 (by decide) h49
    have h47 := zs_iadd C dX5_isHeard_47 h48
    have h46 := zs_iload_n (i := 1) C dX5_isHeard_46 rfl h47
    have h44 := zs_bipush (v := 25) C dX5_isHeard_44 (by decide) h46
    have h41 := zs_gR C dX5_isHeard_41 zf_5_1 zw_544 h44
    have h40 := zs_aload_n (i := 0) C dX5_isHeard_40 rfl h41
    have h39 := zs_lald (n := 96) C dX5_isHeard_39 (by decide) h40
    have h38 := zs_iadd C dX5_isHeard_38 h39
    have h36 := zs_iload (i := 6) C dX5_isHeard_36 h38
    have h35 := zs_iadd C dX5_isHeard_35 h36
    have h34 := zs_iload_n (i := 3) C dX5_isHeard_34 rfl h35
    have h33 := zs_imul C dX5_isHeard_33 h34
    have h32 := zs_iload_n (i := 2) C dX5_isHeard_32 rfl h33
    have h30 := zs_bipush (v := 24) C dX5_isHeard_30 (by decide) h32
    have h27 := zs_gR C dX5_isHeard_27 zf_5_16 zw_559 h30
    have h26 := zs_aload_n (i := 0) C dX5_isHeard_26 rfl h27
    have h23 := zs_vV C dX5_isHeard_23 (m_X5_passOn N) zw_678 ⟨Nat.le_of_ble_eq_true rfl, Nat.le_of_ble_eq_true rfl⟩ h26
    have h20 := zs_gR C dX5_isHeard_20 zf_5_1 zw_544 h23
    have h19 := zs_aload_n (i := 0) C dX5_isHeard_19 rfl h20
    have h18 := zs_aload_n (i := 0) C dX5_isHeard_18 rfl h19
    have h15 := zs_if_eq (tgt := 67) C dX5_isHeard_15 (by decide) h67 h18
    have h13 := zs_iload (i := 5) C dX5_isHeard_13 h15
    have h10 := zs_icmp_ge (tgt := 67) C dX5_isHeard_10 (by decide) h67 h13
    have h8 := zs_iload (i := 4) C dX5_isHeard_8 h10
    have h6 := zs_iload (i := 6) C dX5_isHeard_6 h8
    intro H locs ls L st μ r h hL hst hW hS
    obtain ⟨x0, x1, x2, x3, x4, x5, x6, rfl, rfl, h⟩ := k_X5_isHeard_L6_i h
    exact h6 H locs ls [some (.inr (.inr (5, x0))), some (.inl x1), some (.inl x2), some (.inl x3), some (.inl x4), some (.inl x5), some (.inl x6)] [] μ r h (hL.less ⟨rfl, rfl, rfl, rfl, rfl, rfl, rfl, trivial⟩) hst hW hS
def f_X5_isHeard (N : Nat) (x0 : Nat) (x1 : Int32) (x2 : Int32) (x3 : Int32) (x4 : Int32) (μ : ZM) : Option (Int32 × ZM) :=
  f_X5_isHeard_L6 N N x0 x1 x2 x3 x4 1 0 μ
def g_X5_isHeard (N : Nat) (as : List ZV) (μ : ZM) : Option (Int32 × ZM) := match as with
  | [.inr (.inr (5, x0)), .inl x1, .inl x2, .inl x3, .inl x4] => f_X5_isHeard N x0 x1 x2 x3 x4 μ
  | _ => none
theorem g_X5_isHeard_i {N : Nat} {as : List ZV} {μ : ZM} {r : Int32 × ZM} (h : g_X5_isHeard N as μ = some r) : ∃ (x0 : Nat) (x1 : Int32) (x2 : Int32) (x3 : Int32) (x4 : Int32), as = [.inr (.inr (5, x0)), .inl x1, .inl x2, .inl x3, .inl x4] ∧ f_X5_isHeard N x0 x1 x2 x3 x4 μ = some r := by
  unfold g_X5_isHeard at h
  split at h
  · exact ⟨_, _, _, _, _, rfl, h⟩
  · cases h
set_option maxRecDepth 100000 in
theorem c_X5_isHeard (N : Nat) : zk_C yX5_isHeard cX5_isHeard 7 (some .boolean) ({ frames := 7, cells := 0, slots := 0, locals := 155 } : Room) zq_I (g_X5_isHeard N) := by
  refine zk_met ?κ (by decide +kernel) ?hG ?body
  case body =>
    intro X E C
    have C : zk_X X E RX5 cX5_isHeard 7 (some .boolean) ({ frames := 7, cells := 0, slots := 0, locals := 155 } : Room) := C
    have e6 := s_X5_isHeard_L6 N C N
    have h4 := zs_istore (i := 6) C dX5_isHeard_4 e6
    have h3 := zs_iconst (v := 0) C dX5_isHeard_3 (by decide) h4
    have h1 := zs_istore (i := 5) C dX5_isHeard_1 h3
    have h0 := zs_iconst (v := 1) C dX5_isHeard_0 (by decide) h1
    exact h0
  case hG =>
    intro as μ r h
    obtain ⟨x0, x1, x2, x3, x4, rfl, h⟩ := g_X5_isHeard_i h
    exact ⟨Nat.le_of_ble_eq_true rfl, h⟩
theorem m_X5_isHeard (N : Nat) : zk_MV yX5_isHeard cX5_isHeard 7 (some .boolean) ({ frames := 7, cells := 0, slots := 0, locals := 155 } : Room) zq_I (g_X5_isHeard N) 4 5 := ⟨c_X5_isHeard N, zw_800, zw_799, zw_24, zw_31, rfl, rfl, by decide +kernel, by decide, ⟨TX5, 18, rfl⟩, fun as μ r h => by obtain ⟨x0, x1, x2, x3, x4, rfl, -⟩ := g_X5_isHeard_i h; exact ⟨_, _, rfl⟩⟩
-- LongestWedModel.isSheet(I)Z
def f_X5_isSheet (N : Nat) (x0 : Int32) (μ : ZM) : Option (Int32 × ZM) :=
  (f_X5_in N x0 0 3 μ).bind fun r1 =>
  zk_zr r1.1 r1.2
def g_X5_isSheet (N : Nat) (as : List ZV) (μ : ZM) : Option (Int32 × ZM) := match as with
  | [.inl x0] => f_X5_isSheet N x0 μ
  | _ => none
theorem g_X5_isSheet_i {N : Nat} {as : List ZV} {μ : ZM} {r : Int32 × ZM} (h : g_X5_isSheet N as μ = some r) : ∃ (x0 : Int32), as = [.inl x0] ∧ f_X5_isSheet N x0 μ = some r := by
  unfold g_X5_isSheet at h
  split at h
  · exact ⟨_, rfl, h⟩
  · cases h
set_option maxRecDepth 100000 in
theorem c_X5_isSheet (N : Nat) : zk_C yX5_isSheet cX5_isSheet 1 (some .boolean) ({ frames := 1, cells := 0, slots := 0, locals := 22 } : Room) zq_I (g_X5_isSheet N) := by
  refine zk_met ?κ (by decide +kernel) ?hG ?body
  case body =>
    intro X E C
    have C : zk_X X E RX5 cX5_isSheet 1 (some .boolean) ({ frames := 1, cells := 0, slots := 0, locals := 22 } : Room) := C
    have h6 := zs_zret C dX5_isSheet_6
    have h3 := zs_sI C dX5_isSheet_3 (m_X5_in N) zw_603 ⟨Nat.le_of_ble_eq_true rfl, Nat.le_of_ble_eq_true rfl⟩ h6
    have h2 := zs_iconst (v := 3) C dX5_isSheet_2 (by decide) h3
    have h1 := zs_iconst (v := 0) C dX5_isSheet_1 (by decide) h2
    have h0 := zs_iload_n (i := 0) C dX5_isSheet_0 rfl h1
    exact h0
  case hG =>
    intro as μ r h
    obtain ⟨x0, rfl, h⟩ := g_X5_isSheet_i h
    exact ⟨Nat.le_of_ble_eq_true rfl, h⟩
theorem m_X5_isSheet (N : Nat) : zk_MS yX5_isSheet cX5_isSheet 1 (some .boolean) ({ frames := 1, cells := 0, slots := 0, locals := 22 } : Room) zq_I (g_X5_isSheet N) 1 := ⟨c_X5_isSheet N, zw_792, zw_791, zw_31, rfl, rfl, by decide +kernel⟩
-- LongestWedModel.heard(IIIIII)I
def f_X5_heard_L105 (N : Nat) : Nat → Nat → Int32 → Int32 → Int32 → Int32 → Int32 → Int32 → Int32 → Int32 → Int32 → ZM → Option (Int32 × ZM)
  | 0, _, _, _, _, _, _, _, _, _, _, _ => none
  | n + 1, x0, x1, x2, x4, x5, x6, x8, x9, x10, x12, μ =>
    if x12 < 0 then
      if (2 : Int32) ≤ x6 then
        if ¬ x6 = (2 : Int32) then
          some (x10, μ)
        else
          some (x9, μ)
      else
        some (x8, μ)
    else
      (f_X5_take N x0 μ).bind fun r1 =>
      let j140 : Int32 → Option (Int32 × ZM) := fun b2 =>
        if zk_o (b2 + x1) 32 = true then none else
        let μ3 := zk_si r1 (x0 + 2) (Int32.toNatClampNeg (b2 + x1)) x12
        (f_X5_isHeard N x0 x1 x2 x4 x5 μ3).bind fun r4 =>
        if r4.1 = 0 then
          f_X5_heard_L105 N n x0 x1 x2 x4 x5 x6 x8 x9 x10 (x12 + (-1)) r4.2
        else
          let j174 : Int32 → Option (Int32 × ZM) := fun b5 =>
            f_X5_heard_L105 N n x0 x1 x2 x4 x5 x6 (x8 ||| b5) (x9 + 1) x12 (x12 + (-1)) r4.2
          if (2 : Int32) ≤ x6 then
            j174 0
          else
            j174 (1 <<< (x12 &&& 31))
      if ¬ x6 = 0 then
        if ¬ x6 = (1 : Int32) then
          j140 11
        else
          j140 25
      else
        j140 4
def k_X5_heard_L105 (N n : Nat) : ZK (Int32 × ZM) := fun L st μ => match L, st with
  | [some (.inr (.inr (5, x0))), some (.inl x1), some (.inl x2), _, some (.inl x4), some (.inl x5), some (.inl x6), _, some (.inl x8), some (.inl x9), some (.inl x10), _, some (.inl x12)], [] => f_X5_heard_L105 N n x0 x1 x2 x4 x5 x6 x8 x9 x10 x12 μ
  | _, _ => none
theorem k_X5_heard_L105_i {N : Nat} {n : Nat} {L : ZL} {st : List ZV} {μ : ZM} {r : Int32 × ZM} (h : k_X5_heard_L105 N n L st μ = some r) : ∃ (x0 : Nat) (x1 : Int32) (x2 : Int32) (x4 : Int32) (x5 : Int32) (x6 : Int32) (x8 : Int32) (x9 : Int32) (x10 : Int32) (x12 : Int32) (u3 : Option ZV) (u7 : Option ZV) (u11 : Option ZV), L = [some (.inr (.inr (5, x0))), some (.inl x1), some (.inl x2), u3, some (.inl x4), some (.inl x5), some (.inl x6), u7, some (.inl x8), some (.inl x9), some (.inl x10), u11, some (.inl x12)] ∧ st = [] ∧ f_X5_heard_L105 N n x0 x1 x2 x4 x5 x6 x8 x9 x10 x12 μ = some r := by
  unfold k_X5_heard_L105 at h
  split at h
  · exact ⟨_, _, _, _, _, _, _, _, _, _, _, _, _, rfl, rfl, h⟩
  · cases h
set_option maxRecDepth 100000 in
theorem s_X5_heard_L105 (N : Nat) {X : ZX} {E : ZE} (C : zk_X X E RX5 cX5_heard 13 (some .int) ({ frames := 8, cells := 0, slots := 0, locals := 181 } : Room)) : ∀ n, zk_S X E 13 zq_I 105 (k_X5_heard_L105 N n) := by
  intro n
  induction n with
  | zero =>
    intro H locs ls L st μ r h hL hst hW hS
    obtain ⟨x0, x1, x2, x4, x5, x6, x8, x9, x10, x12, u3, u7, u11, rfl, rfl, h⟩ := k_X5_heard_L105_i h
    exact nomatch (show none = some r from h)
  | succ n ih =>
    have h214 := zs_iret C dX5_heard_214
    have h212 := zs_iload (i := 10) C dX5_heard_212 h214
    have h209 := zs_goto (tgt := 214) C dX5_heard_209 (by decide) h214
    have h207 := zs_iload (i := 9) C dX5_heard_207 h209
    have h204 := zs_icmp_ne (tgt := 212) C dX5_heard_204 (by decide) h212 h207
    have h203 := zs_iconst (v := 2) C dX5_heard_203 (by decide) h204
    have h201 := zs_iload (i := 6) C dX5_heard_201 h203
    have h198 := zs_goto (tgt := 214) C dX5_heard_198 (by decide) h214
    have h196 := zs_iload (i := 8) C dX5_heard_196 h198
    have h193 := zs_icmp_ge (tgt := 201) C dX5_heard_193 (by decide) h201 h196
    have h192 := zs_iconst (v := 2) C dX5_heard_192 (by decide) h193
    have h190 := zs_iload (i := 6) C dX5_heard_190 h192
    have h187 := zs_goto (tgt := 105) C dX5_heard_187 (by decide) ih
    have h184 := zs_iinc (n := (-1)) C dX5_heard_184 (by decide) h187
    have h182 := zs_istore (i := 10) C dX5_heard_182 h184
    have h180 := zs_iload (i := 12) C dX5_heard_180 h182
    have h177 := zs_iinc (n := 1) C dX5_heard_177 (by decide) h180
    have h175 := zs_istore (i := 8) C dX5_heard_175 h177
    have h174 := zs_ior C dX5_heard_174 h175
    have h173 := zs_iconst (v := 0) C dX5_heard_173 (by decide) h174
    have h170 := zs_goto (tgt := 174) C dX5_heard_170 (by decide) h174
    have h169 := zs_ishl C dX5_heard_169 h170
    have h167 := zs_iload (i := 12) C dX5_heard_167 h169
    have h166 := zs_iconst (v := 1) C dX5_heard_166 (by decide) h167
    have h163 := zs_icmp_ge (tgt := 173) C dX5_heard_163 (by decide) h173 h166
    have h162 := zs_iconst (v := 2) C dX5_heard_162 (by decide) h163
    have h160 := zs_iload (i := 6) C dX5_heard_160 h162
    have h158 := zs_iload (i := 8) C dX5_heard_158 h160
    have h155 := zs_if_eq (tgt := 184) C dX5_heard_155 (by decide) h184 h158
    have h152 := zs_vI C dX5_heard_152 (m_X5_isHeard N) zw_797 ⟨Nat.le_of_ble_eq_true rfl, Nat.le_of_ble_eq_true rfl⟩ h155
    have h150 := zs_iload (i := 5) C dX5_heard_150 h152
    have h148 := zs_iload (i := 4) C dX5_heard_148 h150
    have h147 := zs_iload_n (i := 2) C dX5_heard_147 rfl h148
    have h146 := zs_iload_n (i := 1) C dX5_heard_146 rfl h147
    have h145 := zs_aload_n (i := 0) C dX5_heard_145 rfl h146
    have h144 := zs_iast (n := 32) C dX5_heard_144 (by decide) h145
    have h142 := zs_iload (i := 12) C dX5_heard_142 h144
    have h141 := zs_iadd C dX5_heard_141 h142
    have h140 := zs_iload_n (i := 1) C dX5_heard_140 rfl h141
    have h138 := zs_bipush (v := 11) C dX5_heard_138 (by decide) h140
    have h135 := zs_goto (tgt := 140) C dX5_heard_135 (by decide) h140
    have h133 := zs_bipush (v := 25) C dX5_heard_133 (by decide) h135
    have h130 := zs_icmp_ne (tgt := 138) C dX5_heard_130 (by decide) h138 h133
    have h129 := zs_iconst (v := 1) C dX5_heard_129 (by decide) h130
    have h127 := zs_iload (i := 6) C dX5_heard_127 h129
    have h124 := zs_goto (tgt := 140) C dX5_heard_124 (by decide) h140
    have h123 := zs_iconst (v := 4) C dX5_heard_123 (by decide) h124
    have h120 := zs_if_ne (tgt := 127) C dX5_heard_120 (by decide) h127 h123
    have h118 := zs_iload (i := 6) C dX5_heard_118 h120
    have h115 := zs_gR C dX5_heard_115 zf_5_1 zw_544 h118
    have h114 := zs_aload_n (i := 0) C dX5_heard_114 rfl h115
    have h111 := zs_vV C dX5_heard_111 (m_X5_take N) zw_723 ⟨Nat.le_of_ble_eq_true rfl, Nat.le_of_ble_eq_true rfl⟩ h114
    have h110 := zs_aload_n (i := 0) C dX5_heard_110 rfl h111
    have h107 := zs_if_lt (tgt := 190) C dX5_heard_107 (by decide) h190 h110
    have h105 := zs_iload (i := 12) C dX5_heard_105 h107
    intro H locs ls L st μ r h hL hst hW hS
    obtain ⟨x0, x1, x2, x4, x5, x6, x8, x9, x10, x12, u3, u7, u11, rfl, rfl, h⟩ := k_X5_heard_L105_i h
    exact h105 H locs ls [some (.inr (.inr (5, x0))), some (.inl x1), some (.inl x2), none, some (.inl x4), some (.inl x5), some (.inl x6), none, some (.inl x8), some (.inl x9), some (.inl x10), none, some (.inl x12)] [] μ r h (hL.less ⟨rfl, rfl, rfl, rfl, rfl, rfl, rfl, rfl, rfl, rfl, trivial⟩) hst hW hS
def f_X5_heard (N : Nat) (x0 : Nat) (x1 : Int32) (x2 : Int32) (x3 : Int32) (x4 : Int32) (x5 : Int32) (x6 : Int32) (μ : ZM) : Option (Int32 × ZM) :=
  (f_X5_isCouple N x0 x1 μ).bind fun r1 =>
  if r1.1 = 0 then
    some ((-1), r1.2)
  else
    (f_X5_isSheet N x2 r1.2).bind fun r2 =>
    if r2.1 = 0 then
      some ((-1), r2.2)
    else
      (f_X5_in N x3 0 3 r2.2).bind fun r3 =>
      if r3.1 = 0 then
        some ((-1), r3.2)
      else
        (f_X5_in N x5 1 8 r3.2).bind fun r4 =>
        if r4.1 = 0 then
          some ((-1), r4.2)
        else
          (f_X5_in N x6 0 3 r4.2).bind fun r5 =>
          if ¬ r5.1 = 0 then
            (f_X5_findOf N x0 x2 x3 x4 x5 r5.2).bind fun r6 =>
            if r6.1 = 0 then
              if ¬ x6 = 0 then
                if ¬ x6 = (1 : Int32) then
                  f_X5_heard_L105 N N x0 x1 x2 x4 x5 x6 0 0 (-4) 80 r6.2
                else
                  f_X5_heard_L105 N N x0 x1 x2 x4 x5 x6 0 0 (-4) 19 r6.2
              else
                f_X5_heard_L105 N N x0 x1 x2 x4 x5 x6 0 0 (-4) 4 r6.2
            else
              some (r6.1, r6.2)
          else
            some ((-1), r5.2)
def g_X5_heard (N : Nat) (as : List ZV) (μ : ZM) : Option (Int32 × ZM) := match as with
  | [.inr (.inr (5, x0)), .inl x1, .inl x2, .inl x3, .inl x4, .inl x5, .inl x6] => f_X5_heard N x0 x1 x2 x3 x4 x5 x6 μ
  | _ => none
theorem g_X5_heard_i {N : Nat} {as : List ZV} {μ : ZM} {r : Int32 × ZM} (h : g_X5_heard N as μ = some r) : ∃ (x0 : Nat) (x1 : Int32) (x2 : Int32) (x3 : Int32) (x4 : Int32) (x5 : Int32) (x6 : Int32), as = [.inr (.inr (5, x0)), .inl x1, .inl x2, .inl x3, .inl x4, .inl x5, .inl x6] ∧ f_X5_heard N x0 x1 x2 x3 x4 x5 x6 μ = some r := by
  unfold g_X5_heard at h
  split at h
  · exact ⟨_, _, _, _, _, _, _, rfl, h⟩
  · cases h
set_option maxRecDepth 100000 in
theorem c_X5_heard (N : Nat) : zk_C yX5_heard cX5_heard 13 (some .int) ({ frames := 8, cells := 0, slots := 0, locals := 181 } : Room) zq_I (g_X5_heard N) := by
  refine zk_met ?κ (by decide +kernel) ?hG ?body
  case body =>
    intro X E C
    have C : zk_X X E RX5 cX5_heard 13 (some .int) ({ frames := 8, cells := 0, slots := 0, locals := 181 } : Room) := C
    have e105 := s_X5_heard_L105 N C N
    have h103 := zs_istore (i := 12) C dX5_heard_103 e105
    have h101 := zs_iload (i := 11) C dX5_heard_101 h103
    have h99 := zs_istore (i := 11) C dX5_heard_99 h101
    have h97 := zs_bipush (v := 80) C dX5_heard_97 (by decide) h99
    have h94 := zs_goto (tgt := 99) C dX5_heard_94 (by decide) h99
    have h92 := zs_bipush (v := 19) C dX5_heard_92 (by decide) h94
    have h89 := zs_icmp_ne (tgt := 97) C dX5_heard_89 (by decide) h97 h92
    have h88 := zs_iconst (v := 1) C dX5_heard_88 (by decide) h89
    have h86 := zs_iload (i := 6) C dX5_heard_86 h88
    have h83 := zs_goto (tgt := 99) C dX5_heard_83 (by decide) h99
    have h82 := zs_iconst (v := 4) C dX5_heard_82 (by decide) h83
    have h79 := zs_if_ne (tgt := 86) C dX5_heard_79 (by decide) h86 h82
    have h77 := zs_iload (i := 6) C dX5_heard_77 h79
    have h75 := zs_istore (i := 10) C dX5_heard_75 h77
    have h73 := zs_bipush (v := (-4)) C dX5_heard_73 (by decide) h75
    have h71 := zs_istore (i := 9) C dX5_heard_71 h73
    have h70 := zs_iconst (v := 0) C dX5_heard_70 (by decide) h71
    have h68 := zs_istore (i := 8) C dX5_heard_68 h70
    have h67 := zs_iconst (v := 0) C dX5_heard_67 (by decide) h68
    have h66 := zs_iret C dX5_heard_66
    have h64 := zs_iload (i := 7) C dX5_heard_64 h66
    have h61 := zs_if_eq (tgt := 67) C dX5_heard_61 (by decide) h67 h64
    have h59 := zs_iload (i := 7) C dX5_heard_59 h61
    have h57 := zs_istore (i := 7) C dX5_heard_57 h59
    have h54 := zs_vI C dX5_heard_54 (m_X5_findOf N) zw_793 ⟨Nat.le_of_ble_eq_true rfl, Nat.le_of_ble_eq_true rfl⟩ h57
    have h52 := zs_iload (i := 5) C dX5_heard_52 h54
    have h50 := zs_iload (i := 4) C dX5_heard_50 h52
    have h49 := zs_iload_n (i := 3) C dX5_heard_49 rfl h50
    have h48 := zs_iload_n (i := 2) C dX5_heard_48 rfl h49
    have h47 := zs_aload_n (i := 0) C dX5_heard_47 rfl h48
    have h46 := zs_iret C dX5_heard_46
    have h45 := zs_iconst (v := (-1)) C dX5_heard_45 (by decide) h46
    have h42 := zs_if_ne (tgt := 47) C dX5_heard_42 (by decide) h47 h45
    have h39 := zs_sI C dX5_heard_39 (m_X5_in N) zw_603 ⟨Nat.le_of_ble_eq_true rfl, Nat.le_of_ble_eq_true rfl⟩ h42
    have h38 := zs_iconst (v := 3) C dX5_heard_38 (by decide) h39
    have h37 := zs_iconst (v := 0) C dX5_heard_37 (by decide) h38
    have h35 := zs_iload (i := 6) C dX5_heard_35 h37
    have h32 := zs_if_eq (tgt := 45) C dX5_heard_32 (by decide) h45 h35
    have h29 := zs_sI C dX5_heard_29 (m_X5_in N) zw_603 ⟨Nat.le_of_ble_eq_true rfl, Nat.le_of_ble_eq_true rfl⟩ h32
    have h27 := zs_bipush (v := 8) C dX5_heard_27 (by decide) h29
    have h26 := zs_iconst (v := 1) C dX5_heard_26 (by decide) h27
    have h24 := zs_iload (i := 5) C dX5_heard_24 h26
    have h21 := zs_if_eq (tgt := 45) C dX5_heard_21 (by decide) h45 h24
    have h18 := zs_sI C dX5_heard_18 (m_X5_in N) zw_603 ⟨Nat.le_of_ble_eq_true rfl, Nat.le_of_ble_eq_true rfl⟩ h21
    have h17 := zs_iconst (v := 3) C dX5_heard_17 (by decide) h18
    have h16 := zs_iconst (v := 0) C dX5_heard_16 (by decide) h17
    have h15 := zs_iload_n (i := 3) C dX5_heard_15 rfl h16
    have h12 := zs_if_eq (tgt := 45) C dX5_heard_12 (by decide) h45 h15
    have h9 := zs_sI C dX5_heard_9 (m_X5_isSheet N) zw_790 ⟨Nat.le_of_ble_eq_true rfl, Nat.le_of_ble_eq_true rfl⟩ h12
    have h8 := zs_iload_n (i := 2) C dX5_heard_8 rfl h9
    have h5 := zs_if_eq (tgt := 45) C dX5_heard_5 (by decide) h45 h8
    have h2 := zs_vI C dX5_heard_2 (m_X5_isCouple N) zw_613 ⟨Nat.le_of_ble_eq_true rfl, Nat.le_of_ble_eq_true rfl⟩ h5
    have h1 := zs_iload_n (i := 1) C dX5_heard_1 rfl h2
    have h0 := zs_aload_n (i := 0) C dX5_heard_0 rfl h1
    exact h0
  case hG =>
    intro as μ r h
    obtain ⟨x0, x1, x2, x3, x4, x5, x6, rfl, h⟩ := g_X5_heard_i h
    exact ⟨Nat.le_of_ble_eq_true rfl, h⟩
theorem m_X5_heard (N : Nat) : zk_MV yX5_heard cX5_heard 13 (some .int) ({ frames := 8, cells := 0, slots := 0, locals := 181 } : Room) zq_I (g_X5_heard N) 6 5 := ⟨c_X5_heard N, zw_789, zw_787, zw_788, zw_31, rfl, rfl, by decide +kernel, by decide, ⟨TX5, 18, rfl⟩, fun as μ r h => by obtain ⟨x0, x1, x2, x3, x4, x5, x6, rfl, -⟩ := g_X5_heard_i h; exact ⟨_, _, rfl⟩⟩
-- LongestWedModel.film(IIIII)I
def f_X5_film_L64 (N : Nat) : Nat → Nat → Int32 → Int32 → Int32 → Int32 → Int32 → ZM → Option (Int32 × ZM)
  | 0, _, _, _, _, _, _, _ => none
  | n + 1, x0, x1, x2, x3, x5, x7, μ =>
    if x2 ≤ x7 then
      some (x2, μ)
    else
      (f_X5_passOn N x0 (x0 + 2) μ).bind fun r1 =>
      if zk_o (25 + x1) 32 = true then none else
      if zk_o (((24 * x3) + x5) + x7) 96 = true then none else
      let μ2 := zk_sj r1 (x0 + 10) (Int32.toNatClampNeg (((24 * x3) + x5) + x7)) (Int32.toInt64 (r1.1 (x0 + 2) (Int32.toNatClampNeg (25 + x1))))
      f_X5_film_L64 N n x0 x1 x2 x3 x5 (x7 + 1) μ2
def k_X5_film_L64 (N n : Nat) : ZK (Int32 × ZM) := fun L st μ => match L, st with
  | [some (.inr (.inr (5, x0))), some (.inl x1), some (.inl x2), some (.inl x3), _, some (.inl x5), _, some (.inl x7)], [] => f_X5_film_L64 N n x0 x1 x2 x3 x5 x7 μ
  | _, _ => none
theorem k_X5_film_L64_i {N : Nat} {n : Nat} {L : ZL} {st : List ZV} {μ : ZM} {r : Int32 × ZM} (h : k_X5_film_L64 N n L st μ = some r) : ∃ (x0 : Nat) (x1 : Int32) (x2 : Int32) (x3 : Int32) (x5 : Int32) (x7 : Int32) (u4 : Option ZV) (u6 : Option ZV), L = [some (.inr (.inr (5, x0))), some (.inl x1), some (.inl x2), some (.inl x3), u4, some (.inl x5), u6, some (.inl x7)] ∧ st = [] ∧ f_X5_film_L64 N n x0 x1 x2 x3 x5 x7 μ = some r := by
  unfold k_X5_film_L64 at h
  split at h
  · exact ⟨_, _, _, _, _, _, _, _, rfl, rfl, h⟩
  · cases h
set_option maxRecDepth 100000 in
theorem s_X5_film_L64 (N : Nat) {X : ZX} {E : ZE} (C : zk_X X E RX5 cX5_film 8 (some .int) ({ frames := 7, cells := 0, slots := 0, locals := 155 } : Room)) : ∀ n, zk_S X E 8 zq_I 64 (k_X5_film_L64 N n) := by
  intro n
  induction n with
  | zero =>
    intro H locs ls L st μ r h hL hst hW hS
    obtain ⟨x0, x1, x2, x3, x5, x7, u4, u6, rfl, rfl, h⟩ := k_X5_film_L64_i h
    exact nomatch (show none = some r from h)
  | succ n ih =>
    have h110 := zs_iret C dX5_film_110
    have h109 := zs_iload_n (i := 2) C dX5_film_109 rfl h110
    have h106 := zs_goto (tgt := 64) C dX5_film_106 (by decide) ih
    have h103 := zs_iinc (n := 1) C dX5_film_103 (by decide) h106
    have h102 := zs_last (n := 96) C dX5_film_102 (by decide) h103
    have h101 := zs_i2l C dX5_film_101 h102
    have h100 := zs_iald (n := 32) C dX5_film_100 (by decide) h101
    have h99 := zs_iadd C dX5_film_99 h100
    have h98 := zs_iload_n (i := 1) C dX5_film_98 rfl h99
    have h96 := zs_bipush (v := 25) C dX5_film_96 (by decide) h98
    have h93 := zs_gR C dX5_film_93 zf_5_1 zw_544 h96
    have h92 := zs_aload_n (i := 0) C dX5_film_92 rfl h93
    have h91 := zs_iadd C dX5_film_91 h92
    have h89 := zs_iload (i := 7) C dX5_film_89 h91
    have h88 := zs_iadd C dX5_film_88 h89
    have h86 := zs_iload (i := 5) C dX5_film_86 h88
    have h85 := zs_imul C dX5_film_85 h86
    have h84 := zs_iload_n (i := 3) C dX5_film_84 rfl h85
    have h82 := zs_bipush (v := 24) C dX5_film_82 (by decide) h84
    have h79 := zs_gR C dX5_film_79 zf_5_16 zw_559 h82
    have h78 := zs_aload_n (i := 0) C dX5_film_78 rfl h79
    have h75 := zs_vV C dX5_film_75 (m_X5_passOn N) zw_678 ⟨Nat.le_of_ble_eq_true rfl, Nat.le_of_ble_eq_true rfl⟩ h78
    have h72 := zs_gR C dX5_film_72 zf_5_1 zw_544 h75
    have h71 := zs_aload_n (i := 0) C dX5_film_71 rfl h72
    have h70 := zs_aload_n (i := 0) C dX5_film_70 rfl h71
    have h67 := zs_icmp_ge (tgt := 109) C dX5_film_67 (by decide) h109 h70
    have h66 := zs_iload_n (i := 2) C dX5_film_66 rfl h67
    have h64 := zs_iload (i := 7) C dX5_film_64 h66
    intro H locs ls L st μ r h hL hst hW hS
    obtain ⟨x0, x1, x2, x3, x5, x7, u4, u6, rfl, rfl, h⟩ := k_X5_film_L64_i h
    exact h64 H locs ls [some (.inr (.inr (5, x0))), some (.inl x1), some (.inl x2), some (.inl x3), none, some (.inl x5), none, some (.inl x7)] [] μ r h (hL.less ⟨rfl, rfl, rfl, rfl, rfl, rfl, trivial⟩) hst hW hS
def f_X5_film (N : Nat) (x0 : Nat) (x1 : Int32) (x2 : Int32) (x3 : Int32) (x4 : Int32) (x5 : Int32) (μ : ZM) : Option (Int32 × ZM) :=
  (f_X5_isCouple N x0 x1 μ).bind fun r1 =>
  if r1.1 = 0 then
    some ((-1), r1.2)
  else
    (f_X5_in N x2 1 24 r1.2).bind fun r2 =>
    if r2.1 = 0 then
      some ((-1), r2.2)
    else
      (f_X5_isSheet N x3 r2.2).bind fun r3 =>
      if r3.1 = 0 then
        some ((-1), r3.2)
      else
        (f_X5_in N x4 0 3 r3.2).bind fun r4 =>
        if ¬ r4.1 = 0 then
          (f_X5_findOf N x0 x3 x4 x5 x2 r4.2).bind fun r5 =>
          if r5.1 = 0 then
            (f_X5_take N x0 r5.2).bind fun r6 =>
            f_X5_film_L64 N N x0 x1 x2 x3 x5 0 r6
          else
            some (r5.1, r5.2)
        else
          some ((-1), r4.2)
def g_X5_film (N : Nat) (as : List ZV) (μ : ZM) : Option (Int32 × ZM) := match as with
  | [.inr (.inr (5, x0)), .inl x1, .inl x2, .inl x3, .inl x4, .inl x5] => f_X5_film N x0 x1 x2 x3 x4 x5 μ
  | _ => none
theorem g_X5_film_i {N : Nat} {as : List ZV} {μ : ZM} {r : Int32 × ZM} (h : g_X5_film N as μ = some r) : ∃ (x0 : Nat) (x1 : Int32) (x2 : Int32) (x3 : Int32) (x4 : Int32) (x5 : Int32), as = [.inr (.inr (5, x0)), .inl x1, .inl x2, .inl x3, .inl x4, .inl x5] ∧ f_X5_film N x0 x1 x2 x3 x4 x5 μ = some r := by
  unfold g_X5_film at h
  split at h
  · exact ⟨_, _, _, _, _, _, rfl, h⟩
  · cases h
set_option maxRecDepth 100000 in
theorem c_X5_film (N : Nat) : zk_C yX5_film cX5_film 8 (some .int) ({ frames := 7, cells := 0, slots := 0, locals := 155 } : Room) zq_I (g_X5_film N) := by
  refine zk_met ?κ (by decide +kernel) ?hG ?body
  case body =>
    intro X E C
    have C : zk_X X E RX5 cX5_film 8 (some .int) ({ frames := 7, cells := 0, slots := 0, locals := 155 } : Room) := C
    have e64 := s_X5_film_L64 N C N
    have h62 := zs_istore (i := 7) C dX5_film_62 e64
    have h61 := zs_iconst (v := 0) C dX5_film_61 (by decide) h62
    have h58 := zs_vV C dX5_film_58 (m_X5_take N) zw_723 ⟨Nat.le_of_ble_eq_true rfl, Nat.le_of_ble_eq_true rfl⟩ h61
    have h57 := zs_aload_n (i := 0) C dX5_film_57 rfl h58
    have h56 := zs_iret C dX5_film_56
    have h54 := zs_iload (i := 6) C dX5_film_54 h56
    have h51 := zs_if_eq (tgt := 57) C dX5_film_51 (by decide) h57 h54
    have h49 := zs_iload (i := 6) C dX5_film_49 h51
    have h47 := zs_istore (i := 6) C dX5_film_47 h49
    have h44 := zs_vI C dX5_film_44 (m_X5_findOf N) zw_793 ⟨Nat.le_of_ble_eq_true rfl, Nat.le_of_ble_eq_true rfl⟩ h47
    have h43 := zs_iload_n (i := 2) C dX5_film_43 rfl h44
    have h41 := zs_iload (i := 5) C dX5_film_41 h43
    have h39 := zs_iload (i := 4) C dX5_film_39 h41
    have h38 := zs_iload_n (i := 3) C dX5_film_38 rfl h39
    have h37 := zs_aload_n (i := 0) C dX5_film_37 rfl h38
    have h36 := zs_iret C dX5_film_36
    have h35 := zs_iconst (v := (-1)) C dX5_film_35 (by decide) h36
    have h32 := zs_if_ne (tgt := 37) C dX5_film_32 (by decide) h37 h35
    have h29 := zs_sI C dX5_film_29 (m_X5_in N) zw_603 ⟨Nat.le_of_ble_eq_true rfl, Nat.le_of_ble_eq_true rfl⟩ h32
    have h28 := zs_iconst (v := 3) C dX5_film_28 (by decide) h29
    have h27 := zs_iconst (v := 0) C dX5_film_27 (by decide) h28
    have h25 := zs_iload (i := 4) C dX5_film_25 h27
    have h22 := zs_if_eq (tgt := 35) C dX5_film_22 (by decide) h35 h25
    have h19 := zs_sI C dX5_film_19 (m_X5_isSheet N) zw_790 ⟨Nat.le_of_ble_eq_true rfl, Nat.le_of_ble_eq_true rfl⟩ h22
    have h18 := zs_iload_n (i := 3) C dX5_film_18 rfl h19
    have h15 := zs_if_eq (tgt := 35) C dX5_film_15 (by decide) h35 h18
    have h12 := zs_sI C dX5_film_12 (m_X5_in N) zw_603 ⟨Nat.le_of_ble_eq_true rfl, Nat.le_of_ble_eq_true rfl⟩ h15
    have h10 := zs_bipush (v := 24) C dX5_film_10 (by decide) h12
    have h9 := zs_iconst (v := 1) C dX5_film_9 (by decide) h10
    have h8 := zs_iload_n (i := 2) C dX5_film_8 rfl h9
    have h5 := zs_if_eq (tgt := 35) C dX5_film_5 (by decide) h35 h8
    have h2 := zs_vI C dX5_film_2 (m_X5_isCouple N) zw_613 ⟨Nat.le_of_ble_eq_true rfl, Nat.le_of_ble_eq_true rfl⟩ h5
    have h1 := zs_iload_n (i := 1) C dX5_film_1 rfl h2
    have h0 := zs_aload_n (i := 0) C dX5_film_0 rfl h1
    exact h0
  case hG =>
    intro as μ r h
    obtain ⟨x0, x1, x2, x3, x4, x5, rfl, h⟩ := g_X5_film_i h
    exact ⟨Nat.le_of_ble_eq_true rfl, h⟩
theorem m_X5_film (N : Nat) : zk_MV yX5_film cX5_film 8 (some .int) ({ frames := 7, cells := 0, slots := 0, locals := 155 } : Room) zq_I (g_X5_film N) 5 5 := ⟨c_X5_film N, zw_804, zw_802, zw_803, zw_31, rfl, rfl, by decide +kernel, by decide, ⟨TX5, 18, rfl⟩, fun as μ r h => by obtain ⟨x0, x1, x2, x3, x4, x5, rfl, -⟩ := g_X5_film_i h; exact ⟨_, _, rfl⟩⟩
-- LongestWedModel.sheet(III)I
def f_X5_sheet_L50 (N : Nat) : Nat → Nat → Int32 → Int32 → Int32 → ZM → Option (Int32 × ZM)
  | 0, _, _, _, _, _ => none
  | n + 1, x0, x1, x3, x4, μ =>
    if (24 : Int32) ≤ x4 then
      some (x3, μ)
    else
      if zk_o ((24 * x1) + x4) 96 = true then none else
      let μ1 := zk_sj μ (x0 + 10) (Int32.toNatClampNeg ((24 * x1) + x4)) 0
      f_X5_sheet_L50 N n x0 x1 x3 (x4 + 1) μ1
def k_X5_sheet_L50 (N n : Nat) : ZK (Int32 × ZM) := fun L st μ => match L, st with
  | [some (.inr (.inr (5, x0))), some (.inl x1), _, some (.inl x3), some (.inl x4)], [] => f_X5_sheet_L50 N n x0 x1 x3 x4 μ
  | _, _ => none
theorem k_X5_sheet_L50_i {N : Nat} {n : Nat} {L : ZL} {st : List ZV} {μ : ZM} {r : Int32 × ZM} (h : k_X5_sheet_L50 N n L st μ = some r) : ∃ (x0 : Nat) (x1 : Int32) (x3 : Int32) (x4 : Int32) (u2 : Option ZV), L = [some (.inr (.inr (5, x0))), some (.inl x1), u2, some (.inl x3), some (.inl x4)] ∧ st = [] ∧ f_X5_sheet_L50 N n x0 x1 x3 x4 μ = some r := by
  unfold k_X5_sheet_L50 at h
  split at h
  · exact ⟨_, _, _, _, _, rfl, rfl, h⟩
  · cases h
set_option maxRecDepth 100000 in
theorem s_X5_sheet_L50 (N : Nat) {X : ZX} {E : ZE} (C : zk_X X E RX5 cX5_sheet 5 (some .int) ({ frames := 2, cells := 0, slots := 0, locals := 42 } : Room)) : ∀ n, zk_S X E 5 zq_I 50 (k_X5_sheet_L50 N n) := by
  intro n
  induction n with
  | zero =>
    intro H locs ls L st μ r h hL hst hW hS
    obtain ⟨x0, x1, x3, x4, u2, rfl, rfl, h⟩ := k_X5_sheet_L50_i h
    exact nomatch (show none = some r from h)
  | succ n ih =>
    have h77 := zs_iret C dX5_sheet_77
    have h76 := zs_iload_n (i := 3) C dX5_sheet_76 rfl h77
    have h73 := zs_goto (tgt := 50) C dX5_sheet_73 (by decide) ih
    have h70 := zs_iinc (n := 1) C dX5_sheet_70 (by decide) h73
    have h69 := zs_last (n := 96) C dX5_sheet_69 (by decide) h70
    have h68 := zs_lconst (v := 0) C dX5_sheet_68 (by decide) h69
    have h67 := zs_iadd C dX5_sheet_67 h68
    have h65 := zs_iload (i := 4) C dX5_sheet_65 h67
    have h64 := zs_imul C dX5_sheet_64 h65
    have h63 := zs_iload_n (i := 1) C dX5_sheet_63 rfl h64
    have h61 := zs_bipush (v := 24) C dX5_sheet_61 (by decide) h63
    have h58 := zs_gR C dX5_sheet_58 zf_5_16 zw_559 h61
    have h57 := zs_aload_n (i := 0) C dX5_sheet_57 rfl h58
    have h54 := zs_icmp_ge (tgt := 76) C dX5_sheet_54 (by decide) h76 h57
    have h52 := zs_bipush (v := 24) C dX5_sheet_52 (by decide) h54
    have h50 := zs_iload (i := 4) C dX5_sheet_50 h52
    intro H locs ls L st μ r h hL hst hW hS
    obtain ⟨x0, x1, x3, x4, u2, rfl, rfl, h⟩ := k_X5_sheet_L50_i h
    exact h50 H locs ls [some (.inr (.inr (5, x0))), some (.inl x1), none, some (.inl x3), some (.inl x4)] [] μ r h (hL.less ⟨rfl, rfl, rfl, rfl, trivial⟩) hst hW hS
def f_X5_sheet (N : Nat) (x0 : Nat) (x1 : Int32) (x2 : Int32) (x3 : Int32) (μ : ZM) : Option (Int32 × ZM) :=
  (f_X5_isSheet N x1 μ).bind fun r1 =>
  if r1.1 = 0 then
    some ((-1), r1.2)
  else
    (f_X5_in N x2 0 3 r1.2).bind fun r2 =>
    if r2.1 = 0 then
      some ((-1), r2.2)
    else
      if x3 ≤ (24 : Int32) then
        if 0 ≤ x3 then
          if zk_o x1 4 = true then none else
          let μ3 := zk_si r2.2 (x0 + 8) (Int32.toNatClampNeg x1) (x2 + 1)
          if zk_o x1 4 = true then none else
          let μ4 := zk_si μ3 (x0 + 9) (Int32.toNatClampNeg x1) x3
          f_X5_sheet_L50 N N x0 x1 x3 0 μ4
        else
          some ((-14), r2.2)
      else
        some ((-1), r2.2)
def g_X5_sheet (N : Nat) (as : List ZV) (μ : ZM) : Option (Int32 × ZM) := match as with
  | [.inr (.inr (5, x0)), .inl x1, .inl x2, .inl x3] => f_X5_sheet N x0 x1 x2 x3 μ
  | _ => none
theorem g_X5_sheet_i {N : Nat} {as : List ZV} {μ : ZM} {r : Int32 × ZM} (h : g_X5_sheet N as μ = some r) : ∃ (x0 : Nat) (x1 : Int32) (x2 : Int32) (x3 : Int32), as = [.inr (.inr (5, x0)), .inl x1, .inl x2, .inl x3] ∧ f_X5_sheet N x0 x1 x2 x3 μ = some r := by
  unfold g_X5_sheet at h
  split at h
  · exact ⟨_, _, _, _, rfl, h⟩
  · cases h
set_option maxRecDepth 100000 in
theorem c_X5_sheet (N : Nat) : zk_C yX5_sheet cX5_sheet 5 (some .int) ({ frames := 2, cells := 0, slots := 0, locals := 42 } : Room) zq_I (g_X5_sheet N) := by
  refine zk_met ?κ (by decide +kernel) ?hG ?body
  case body =>
    intro X E C
    have C : zk_X X E RX5 cX5_sheet 5 (some .int) ({ frames := 2, cells := 0, slots := 0, locals := 42 } : Room) := C
    have e50 := s_X5_sheet_L50 N C N
    have h48 := zs_istore (i := 4) C dX5_sheet_48 e50
    have h47 := zs_iconst (v := 0) C dX5_sheet_47 (by decide) h48
    have h46 := zs_iast (n := 4) C dX5_sheet_46 (by decide) h47
    have h45 := zs_iload_n (i := 3) C dX5_sheet_45 rfl h46
    have h44 := zs_iload_n (i := 1) C dX5_sheet_44 rfl h45
    have h41 := zs_gR C dX5_sheet_41 zf_5_15 zw_558 h44
    have h40 := zs_aload_n (i := 0) C dX5_sheet_40 rfl h41
    have h39 := zs_iast (n := 4) C dX5_sheet_39 (by decide) h40
    have h38 := zs_iadd C dX5_sheet_38 h39
    have h37 := zs_iconst (v := 1) C dX5_sheet_37 (by decide) h38
    have h36 := zs_iload_n (i := 2) C dX5_sheet_36 rfl h37
    have h35 := zs_iload_n (i := 1) C dX5_sheet_35 rfl h36
    have h32 := zs_gR C dX5_sheet_32 zf_5_14 zw_557 h35
    have h31 := zs_aload_n (i := 0) C dX5_sheet_31 rfl h32
    have h30 := zs_iret C dX5_sheet_30
    have h28 := zs_bipush (v := (-14)) C dX5_sheet_28 (by decide) h30
    have h25 := zs_if_ge (tgt := 31) C dX5_sheet_25 (by decide) h31 h28
    have h24 := zs_iload_n (i := 3) C dX5_sheet_24 rfl h25
    have h23 := zs_iret C dX5_sheet_23
    have h22 := zs_iconst (v := (-1)) C dX5_sheet_22 (by decide) h23
    have h19 := zs_icmp_le (tgt := 24) C dX5_sheet_19 (by decide) h24 h22
    have h17 := zs_bipush (v := 24) C dX5_sheet_17 (by decide) h19
    have h16 := zs_iload_n (i := 3) C dX5_sheet_16 rfl h17
    have h13 := zs_if_eq (tgt := 22) C dX5_sheet_13 (by decide) h22 h16
    have h10 := zs_sI C dX5_sheet_10 (m_X5_in N) zw_603 ⟨Nat.le_of_ble_eq_true rfl, Nat.le_of_ble_eq_true rfl⟩ h13
    have h9 := zs_iconst (v := 3) C dX5_sheet_9 (by decide) h10
    have h8 := zs_iconst (v := 0) C dX5_sheet_8 (by decide) h9
    have h7 := zs_iload_n (i := 2) C dX5_sheet_7 rfl h8
    have h4 := zs_if_eq (tgt := 22) C dX5_sheet_4 (by decide) h22 h7
    have h1 := zs_sI C dX5_sheet_1 (m_X5_isSheet N) zw_790 ⟨Nat.le_of_ble_eq_true rfl, Nat.le_of_ble_eq_true rfl⟩ h4
    have h0 := zs_iload_n (i := 1) C dX5_sheet_0 rfl h1
    exact h0
  case hG =>
    intro as μ r h
    obtain ⟨x0, x1, x2, x3, rfl, h⟩ := g_X5_sheet_i h
    exact ⟨Nat.le_of_ble_eq_true rfl, h⟩
theorem m_X5_sheet (N : Nat) : zk_MV yX5_sheet cX5_sheet 5 (some .int) ({ frames := 2, cells := 0, slots := 0, locals := 42 } : Room) zq_I (g_X5_sheet N) 3 5 := ⟨c_X5_sheet N, zw_808, zw_806, zw_807, zw_31, rfl, rfl, by decide +kernel, by decide, ⟨TX5, 18, rfl⟩, fun as μ r h => by obtain ⟨x0, x1, x2, x3, rfl, -⟩ := g_X5_sheet_i h; exact ⟨_, _, rfl⟩⟩
-- LongestWedModel.drop(I)I
def f_X5_drop (N : Nat) (x0 : Nat) (x1 : Int32) (μ : ZM) : Option (Int32 × ZM) :=
  (f_X5_isSheet N x1 μ).bind fun r1 =>
  if ¬ r1.1 = 0 then
    if zk_o x1 4 = true then none else
    if ¬ (r1.2.1 (x0 + 8) (Int32.toNatClampNeg x1)) = 0 then
      if zk_o x1 4 = true then none else
      let μ2 := zk_si r1.2 (x0 + 8) (Int32.toNatClampNeg x1) 0
      if zk_o x1 4 = true then none else
      some ((μ2.1 (x0 + 9) (Int32.toNatClampNeg x1)), μ2)
    else
      some ((-11), r1.2)
  else
    some ((-1), r1.2)
def g_X5_drop (N : Nat) (as : List ZV) (μ : ZM) : Option (Int32 × ZM) := match as with
  | [.inr (.inr (5, x0)), .inl x1] => f_X5_drop N x0 x1 μ
  | _ => none
theorem g_X5_drop_i {N : Nat} {as : List ZV} {μ : ZM} {r : Int32 × ZM} (h : g_X5_drop N as μ = some r) : ∃ (x0 : Nat) (x1 : Int32), as = [.inr (.inr (5, x0)), .inl x1] ∧ f_X5_drop N x0 x1 μ = some r := by
  unfold g_X5_drop at h
  split at h
  · exact ⟨_, _, rfl, h⟩
  · cases h
set_option maxRecDepth 100000 in
theorem c_X5_drop (N : Nat) : zk_C yX5_drop cX5_drop 2 (some .int) ({ frames := 2, cells := 0, slots := 0, locals := 42 } : Room) zq_I (g_X5_drop N) := by
  refine zk_met ?κ (by decide +kernel) ?hG ?body
  case body =>
    intro X E C
    have C : zk_X X E RX5 cX5_drop 2 (some .int) ({ frames := 2, cells := 0, slots := 0, locals := 42 } : Room) := C
    have h34 := zs_iret C dX5_drop_34
    have h33 := zs_iald (n := 4) C dX5_drop_33 (by decide) h34
    have h32 := zs_iload_n (i := 1) C dX5_drop_32 rfl h33
    have h29 := zs_gR C dX5_drop_29 zf_5_15 zw_558 h32
    have h28 := zs_aload_n (i := 0) C dX5_drop_28 rfl h29
    have h27 := zs_iast (n := 4) C dX5_drop_27 (by decide) h28
    have h26 := zs_iconst (v := 0) C dX5_drop_26 (by decide) h27
    have h25 := zs_iload_n (i := 1) C dX5_drop_25 rfl h26
    have h22 := zs_gR C dX5_drop_22 zf_5_14 zw_557 h25
    have h21 := zs_aload_n (i := 0) C dX5_drop_21 rfl h22
    have h20 := zs_iret C dX5_drop_20
    have h18 := zs_bipush (v := (-11)) C dX5_drop_18 (by decide) h20
    have h15 := zs_if_ne (tgt := 21) C dX5_drop_15 (by decide) h21 h18
    have h14 := zs_iald (n := 4) C dX5_drop_14 (by decide) h15
    have h13 := zs_iload_n (i := 1) C dX5_drop_13 rfl h14
    have h10 := zs_gR C dX5_drop_10 zf_5_14 zw_557 h13
    have h9 := zs_aload_n (i := 0) C dX5_drop_9 rfl h10
    have h8 := zs_iret C dX5_drop_8
    have h7 := zs_iconst (v := (-1)) C dX5_drop_7 (by decide) h8
    have h4 := zs_if_ne (tgt := 9) C dX5_drop_4 (by decide) h9 h7
    have h1 := zs_sI C dX5_drop_1 (m_X5_isSheet N) zw_790 ⟨Nat.le_of_ble_eq_true rfl, Nat.le_of_ble_eq_true rfl⟩ h4
    have h0 := zs_iload_n (i := 1) C dX5_drop_0 rfl h1
    exact h0
  case hG =>
    intro as μ r h
    obtain ⟨x0, x1, rfl, h⟩ := g_X5_drop_i h
    exact ⟨Nat.le_of_ble_eq_true rfl, h⟩
theorem m_X5_drop (N : Nat) : zk_MV yX5_drop cX5_drop 2 (some .int) ({ frames := 2, cells := 0, slots := 0, locals := 42 } : Room) zq_I (g_X5_drop N) 1 5 := ⟨c_X5_drop N, zw_812, zw_810, zw_811, zw_31, rfl, rfl, by decide +kernel, by decide, ⟨TX5, 18, rfl⟩, fun as μ r h => by obtain ⟨x0, x1, rfl, -⟩ := g_X5_drop_i h; exact ⟨_, _, rfl⟩⟩
-- LongestWedModel.lowest(IJ)J
def f_X5_lowest (N : Nat) (x0 : Int32) (x1 : Int64) (μ : ZM) : Option (Int64 × ZM) :=
  if ¬ x0 = 0 then
    if ¬ x0 = (1 : Int32) then
      if ¬ x0 = (2 : Int32) then
        some (x1, μ)
      else
        some ((Int32.toInt64 (Int64.toInt32 x1)), μ)
    else
      some ((Int32.toInt64 (Int16.toInt32 (Int32.toInt16 (Int64.toInt32 x1)))), μ)
  else
    some ((Int32.toInt64 (Int8.toInt32 (Int32.toInt8 (Int64.toInt32 x1)))), μ)
def g_X5_lowest (N : Nat) (as : List ZV) (μ : ZM) : Option (Int64 × ZM) := match as with
  | [.inl x0, .inr (.inl x1)] => f_X5_lowest N x0 x1 μ
  | _ => none
theorem g_X5_lowest_i {N : Nat} {as : List ZV} {μ : ZM} {r : Int64 × ZM} (h : g_X5_lowest N as μ = some r) : ∃ (x0 : Int32) (x1 : Int64), as = [.inl x0, .inr (.inl x1)] ∧ f_X5_lowest N x0 x1 μ = some r := by
  unfold g_X5_lowest at h
  split at h
  · exact ⟨_, _, rfl, h⟩
  · cases h
set_option maxRecDepth 100000 in
theorem c_X5_lowest (N : Nat) : zk_C yX5_lowest cX5_lowest 3 (some .long) ({ frames := 0, cells := 0, slots := 0, locals := 0 } : Room) zq_J (g_X5_lowest N) := by
  refine zk_met ?κ (by decide +kernel) ?hG ?body
  case body =>
    intro X E C
    have C : zk_X X E RX5 cX5_lowest 3 (some .long) ({ frames := 0, cells := 0, slots := 0, locals := 0 } : Room) := C
    have h35 := zs_lret C dX5_lowest_35
    have h34 := zs_lload_n (i := 1) C dX5_lowest_34 rfl h35
    have h31 := zs_goto (tgt := 35) C dX5_lowest_31 (by decide) h35
    have h30 := zs_i2l C dX5_lowest_30 h31
    have h29 := zs_l2i C dX5_lowest_29 h30
    have h28 := zs_lload_n (i := 1) C dX5_lowest_28 rfl h29
    have h25 := zs_icmp_ne (tgt := 34) C dX5_lowest_25 (by decide) h34 h28
    have h24 := zs_iconst (v := 2) C dX5_lowest_24 (by decide) h25
    have h23 := zs_iload_n (i := 0) C dX5_lowest_23 rfl h24
    have h20 := zs_goto (tgt := 35) C dX5_lowest_20 (by decide) h35
    have h19 := zs_i2l C dX5_lowest_19 h20
    have h18 := zs_i2s C dX5_lowest_18 h19
    have h17 := zs_l2i C dX5_lowest_17 h18
    have h16 := zs_lload_n (i := 1) C dX5_lowest_16 rfl h17
    have h13 := zs_icmp_ne (tgt := 23) C dX5_lowest_13 (by decide) h23 h16
    have h12 := zs_iconst (v := 1) C dX5_lowest_12 (by decide) h13
    have h11 := zs_iload_n (i := 0) C dX5_lowest_11 rfl h12
    have h8 := zs_goto (tgt := 35) C dX5_lowest_8 (by decide) h35
    have h7 := zs_i2l C dX5_lowest_7 h8
    have h6 := zs_i2b C dX5_lowest_6 h7
    have h5 := zs_l2i C dX5_lowest_5 h6
    have h4 := zs_lload_n (i := 1) C dX5_lowest_4 rfl h5
    have h1 := zs_if_ne (tgt := 11) C dX5_lowest_1 (by decide) h11 h4
    have h0 := zs_iload_n (i := 0) C dX5_lowest_0 rfl h1
    exact h0
  case hG =>
    intro as μ r h
    obtain ⟨x0, x1, rfl, h⟩ := g_X5_lowest_i h
    exact ⟨Nat.le_of_ble_eq_true rfl, h⟩
theorem m_X5_lowest (N : Nat) : zk_MS yX5_lowest cX5_lowest 3 (some .long) ({ frames := 0, cells := 0, slots := 0, locals := 0 } : Room) zq_J (g_X5_lowest N) 2 := ⟨c_X5_lowest N, zw_819, zw_818, zw_31, rfl, rfl, by decide +kernel⟩
-- LongestWedModel.item(IIIJ)I
def f_X5_item (N : Nat) (x0 : Nat) (x1 : Int32) (x2 : Int32) (x3 : Int32) (x4 : Int64) (μ : ZM) : Option (Int32 × ZM) :=
  (f_X5_isSheet N x1 μ).bind fun r1 =>
  if r1.1 = 0 then
    some ((-1), r1.2)
  else
    (f_X5_in N x2 0 3 r1.2).bind fun r2 =>
    if ¬ r2.1 = 0 then
      (f_X5_findOf N x0 x1 x2 x3 1 r2.2).bind fun r3 =>
      if r3.1 = 0 then
        (f_X5_lowest N x2 x4 r3.2).bind fun r4 =>
        if zk_o ((24 * x1) + x3) 96 = true then none else
        let μ5 := zk_sj r4.2 (x0 + 10) (Int32.toNatClampNeg ((24 * x1) + x3)) r4.1
        some (1, μ5)
      else
        some (r3.1, r3.2)
    else
      some ((-1), r2.2)
def g_X5_item (N : Nat) (as : List ZV) (μ : ZM) : Option (Int32 × ZM) := match as with
  | [.inr (.inr (5, x0)), .inl x1, .inl x2, .inl x3, .inr (.inl x4)] => f_X5_item N x0 x1 x2 x3 x4 μ
  | _ => none
theorem g_X5_item_i {N : Nat} {as : List ZV} {μ : ZM} {r : Int32 × ZM} (h : g_X5_item N as μ = some r) : ∃ (x0 : Nat) (x1 : Int32) (x2 : Int32) (x3 : Int32) (x4 : Int64), as = [.inr (.inr (5, x0)), .inl x1, .inl x2, .inl x3, .inr (.inl x4)] ∧ f_X5_item N x0 x1 x2 x3 x4 μ = some r := by
  unfold g_X5_item at h
  split at h
  · exact ⟨_, _, _, _, _, rfl, h⟩
  · cases h
set_option maxRecDepth 100000 in
theorem c_X5_item (N : Nat) : zk_C yX5_item cX5_item 7 (some .int) ({ frames := 2, cells := 0, slots := 0, locals := 42 } : Room) zq_I (g_X5_item N) := by
  refine zk_met ?κ (by decide +kernel) ?hG ?body
  case body =>
    intro X E C
    have C : zk_X X E RX5 cX5_item 7 (some .int) ({ frames := 2, cells := 0, slots := 0, locals := 42 } : Room) := C
    have h54 := zs_iret C dX5_item_54
    have h53 := zs_iconst (v := 1) C dX5_item_53 (by decide) h54
    have h52 := zs_last (n := 96) C dX5_item_52 (by decide) h53
    have h49 := zs_sJ C dX5_item_49 (m_X5_lowest N) zw_817 ⟨Nat.le_of_ble_eq_true rfl, Nat.le_of_ble_eq_true rfl⟩ h52
    have h47 := zs_lload (i := 4) C dX5_item_47 h49
    have h46 := zs_iload_n (i := 2) C dX5_item_46 rfl h47
    have h45 := zs_iadd C dX5_item_45 h46
    have h44 := zs_iload_n (i := 3) C dX5_item_44 rfl h45
    have h43 := zs_imul C dX5_item_43 h44
    have h42 := zs_iload_n (i := 1) C dX5_item_42 rfl h43
    have h40 := zs_bipush (v := 24) C dX5_item_40 (by decide) h42
    have h37 := zs_gR C dX5_item_37 zf_5_16 zw_559 h40
    have h36 := zs_aload_n (i := 0) C dX5_item_36 rfl h37
    have h35 := zs_iret C dX5_item_35
    have h33 := zs_iload (i := 6) C dX5_item_33 h35
    have h30 := zs_if_eq (tgt := 36) C dX5_item_30 (by decide) h36 h33
    have h28 := zs_iload (i := 6) C dX5_item_28 h30
    have h26 := zs_istore (i := 6) C dX5_item_26 h28
    have h23 := zs_vI C dX5_item_23 (m_X5_findOf N) zw_793 ⟨Nat.le_of_ble_eq_true rfl, Nat.le_of_ble_eq_true rfl⟩ h26
    have h22 := zs_iconst (v := 1) C dX5_item_22 (by decide) h23
    have h21 := zs_iload_n (i := 3) C dX5_item_21 rfl h22
    have h20 := zs_iload_n (i := 2) C dX5_item_20 rfl h21
    have h19 := zs_iload_n (i := 1) C dX5_item_19 rfl h20
    have h18 := zs_aload_n (i := 0) C dX5_item_18 rfl h19
    have h17 := zs_iret C dX5_item_17
    have h16 := zs_iconst (v := (-1)) C dX5_item_16 (by decide) h17
    have h13 := zs_if_ne (tgt := 18) C dX5_item_13 (by decide) h18 h16
    have h10 := zs_sI C dX5_item_10 (m_X5_in N) zw_603 ⟨Nat.le_of_ble_eq_true rfl, Nat.le_of_ble_eq_true rfl⟩ h13
    have h9 := zs_iconst (v := 3) C dX5_item_9 (by decide) h10
    have h8 := zs_iconst (v := 0) C dX5_item_8 (by decide) h9
    have h7 := zs_iload_n (i := 2) C dX5_item_7 rfl h8
    have h4 := zs_if_eq (tgt := 16) C dX5_item_4 (by decide) h16 h7
    have h1 := zs_sI C dX5_item_1 (m_X5_isSheet N) zw_790 ⟨Nat.le_of_ble_eq_true rfl, Nat.le_of_ble_eq_true rfl⟩ h4
    have h0 := zs_iload_n (i := 1) C dX5_item_0 rfl h1
    exact h0
  case hG =>
    intro as μ r h
    obtain ⟨x0, x1, x2, x3, x4, rfl, h⟩ := g_X5_item_i h
    exact ⟨Nat.le_of_ble_eq_true rfl, h⟩
theorem m_X5_item (N : Nat) : zk_MV yX5_item cX5_item 7 (some .int) ({ frames := 2, cells := 0, slots := 0, locals := 42 } : Room) zq_I (g_X5_item N) 4 5 := ⟨c_X5_item N, zw_816, zw_814, zw_815, zw_31, rfl, rfl, by decide +kernel, by decide, ⟨TX5, 18, rfl⟩, fun as μ r h => by obtain ⟨x0, x1, x2, x3, x4, rfl, -⟩ := g_X5_item_i h; exact ⟨_, _, rfl⟩⟩
-- LongestWedModel.copy(IIIII)I
def f_X5_copy_L137 (N : Nat) : Nat → Nat → Int32 → Int32 → Int32 → Int32 → ZM → Option (Int32 × ZM)
  | 0, _, _, _, _, _, _ => none
  | n + 1, x0, x3, x4, x5, x6, μ =>
    if x5 ≤ x6 then
      some (x5, μ)
    else
      if zk_o x6 24 = true then none else
      if zk_o (((24 * x3) + x4) + x6) 96 = true then none else
      let μ1 := zk_sj μ (x0 + 10) (Int32.toNatClampNeg (((24 * x3) + x4) + x6)) (μ.2 (x0 + 11) (Int32.toNatClampNeg x6))
      f_X5_copy_L137 N n x0 x3 x4 x5 (x6 + 1) μ1
def k_X5_copy_L137 (N n : Nat) : ZK (Int32 × ZM) := fun L st μ => match L, st with
  | [some (.inr (.inr (5, x0))), _, _, some (.inl x3), some (.inl x4), some (.inl x5), some (.inl x6)], [] => f_X5_copy_L137 N n x0 x3 x4 x5 x6 μ
  | _, _ => none
theorem k_X5_copy_L137_i {N : Nat} {n : Nat} {L : ZL} {st : List ZV} {μ : ZM} {r : Int32 × ZM} (h : k_X5_copy_L137 N n L st μ = some r) : ∃ (x0 : Nat) (x3 : Int32) (x4 : Int32) (x5 : Int32) (x6 : Int32) (u1 : Option ZV) (u2 : Option ZV), L = [some (.inr (.inr (5, x0))), u1, u2, some (.inl x3), some (.inl x4), some (.inl x5), some (.inl x6)] ∧ st = [] ∧ f_X5_copy_L137 N n x0 x3 x4 x5 x6 μ = some r := by
  unfold k_X5_copy_L137 at h
  split at h
  · exact ⟨_, _, _, _, _, _, _, rfl, rfl, h⟩
  · cases h
set_option maxRecDepth 100000 in
theorem s_X5_copy_L137 (N : Nat) {X : ZX} {E : ZE} (C : zk_X X E RX5 cX5_copy 7 (some .int) ({ frames := 2, cells := 0, slots := 0, locals := 42 } : Room)) : ∀ n, zk_S X E 7 zq_I 137 (k_X5_copy_L137 N n) := by
  intro n
  induction n with
  | zero =>
    intro H locs ls L st μ r h hL hst hW hS
    obtain ⟨x0, x3, x4, x5, x6, u1, u2, rfl, rfl, h⟩ := k_X5_copy_L137_i h
    exact nomatch (show none = some r from h)
  | succ n ih =>
    have h174 := zs_iret C dX5_copy_174
    have h172 := zs_iload (i := 5) C dX5_copy_172 h174
    have h169 := zs_goto (tgt := 137) C dX5_copy_169 (by decide) ih
    have h166 := zs_iinc (n := 1) C dX5_copy_166 (by decide) h169
    have h165 := zs_last (n := 96) C dX5_copy_165 (by decide) h166
    have h164 := zs_lald (n := 24) C dX5_copy_164 (by decide) h165
    have h162 := zs_iload (i := 6) C dX5_copy_162 h164
    have h159 := zs_gR C dX5_copy_159 zf_5_17 zw_560 h162
    have h158 := zs_aload_n (i := 0) C dX5_copy_158 rfl h159
    have h157 := zs_iadd C dX5_copy_157 h158
    have h155 := zs_iload (i := 6) C dX5_copy_155 h157
    have h154 := zs_iadd C dX5_copy_154 h155
    have h152 := zs_iload (i := 4) C dX5_copy_152 h154
    have h151 := zs_imul C dX5_copy_151 h152
    have h150 := zs_iload_n (i := 3) C dX5_copy_150 rfl h151
    have h148 := zs_bipush (v := 24) C dX5_copy_148 (by decide) h150
    have h145 := zs_gR C dX5_copy_145 zf_5_16 zw_559 h148
    have h144 := zs_aload_n (i := 0) C dX5_copy_144 rfl h145
    have h141 := zs_icmp_ge (tgt := 172) C dX5_copy_141 (by decide) h172 h144
    have h139 := zs_iload (i := 5) C dX5_copy_139 h141
    have h137 := zs_iload (i := 6) C dX5_copy_137 h139
    intro H locs ls L st μ r h hL hst hW hS
    obtain ⟨x0, x3, x4, x5, x6, u1, u2, rfl, rfl, h⟩ := k_X5_copy_L137_i h
    exact h137 H locs ls [some (.inr (.inr (5, x0))), none, none, some (.inl x3), some (.inl x4), some (.inl x5), some (.inl x6)] [] μ r h (hL.less ⟨rfl, rfl, rfl, rfl, rfl, trivial⟩) hst hW hS
def f_X5_copy_L100 (N : Nat) : Nat → Nat → Int32 → Int32 → Int32 → Int32 → Int32 → Int32 → ZM → Option (Int32 × ZM)
  | 0, _, _, _, _, _, _, _, _ => none
  | n + 1, x0, x1, x2, x3, x4, x5, x6, μ =>
    if x5 ≤ x6 then
      f_X5_copy_L137 N N x0 x3 x4 x5 0 μ
    else
      if zk_o (((24 * x1) + x2) + x6) 96 = true then none else
      if zk_o x6 24 = true then none else
      let μ1 := zk_sj μ (x0 + 11) (Int32.toNatClampNeg x6) (μ.2 (x0 + 10) (Int32.toNatClampNeg (((24 * x1) + x2) + x6)))
      f_X5_copy_L100 N n x0 x1 x2 x3 x4 x5 (x6 + 1) μ1
def k_X5_copy_L100 (N n : Nat) : ZK (Int32 × ZM) := fun L st μ => match L, st with
  | [some (.inr (.inr (5, x0))), some (.inl x1), some (.inl x2), some (.inl x3), some (.inl x4), some (.inl x5), some (.inl x6)], [] => f_X5_copy_L100 N n x0 x1 x2 x3 x4 x5 x6 μ
  | _, _ => none
theorem k_X5_copy_L100_i {N : Nat} {n : Nat} {L : ZL} {st : List ZV} {μ : ZM} {r : Int32 × ZM} (h : k_X5_copy_L100 N n L st μ = some r) : ∃ (x0 : Nat) (x1 : Int32) (x2 : Int32) (x3 : Int32) (x4 : Int32) (x5 : Int32) (x6 : Int32), L = [some (.inr (.inr (5, x0))), some (.inl x1), some (.inl x2), some (.inl x3), some (.inl x4), some (.inl x5), some (.inl x6)] ∧ st = [] ∧ f_X5_copy_L100 N n x0 x1 x2 x3 x4 x5 x6 μ = some r := by
  unfold k_X5_copy_L100 at h
  split at h
  · exact ⟨_, _, _, _, _, _, _, rfl, rfl, h⟩
  · cases h
set_option maxRecDepth 100000 in
theorem s_X5_copy_L100 (N : Nat) {X : ZX} {E : ZE} (C : zk_X X E RX5 cX5_copy 7 (some .int) ({ frames := 2, cells := 0, slots := 0, locals := 42 } : Room)) : ∀ n, zk_S X E 7 zq_I 100 (k_X5_copy_L100 N n) := by
  intro n
  induction n with
  | zero =>
    intro H locs ls L st μ r h hL hst hW hS
    obtain ⟨x0, x1, x2, x3, x4, x5, x6, rfl, rfl, h⟩ := k_X5_copy_L100_i h
    exact nomatch (show none = some r from h)
  | succ n ih =>
    have e137 := s_X5_copy_L137 N C N
    have h135 := zs_istore (i := 6) C dX5_copy_135 e137
    have h134 := zs_iconst (v := 0) C dX5_copy_134 (by decide) h135
    have h131 := zs_goto (tgt := 100) C dX5_copy_131 (by decide) ih
    have h128 := zs_iinc (n := 1) C dX5_copy_128 (by decide) h131
    have h127 := zs_last (n := 24) C dX5_copy_127 (by decide) h128
    have h126 := zs_lald (n := 96) C dX5_copy_126 (by decide) h127
    have h125 := zs_iadd C dX5_copy_125 h126
    have h123 := zs_iload (i := 6) C dX5_copy_123 h125
    have h122 := zs_iadd C dX5_copy_122 h123
    have h121 := zs_iload_n (i := 2) C dX5_copy_121 rfl h122
    have h120 := zs_imul C dX5_copy_120 h121
    have h119 := zs_iload_n (i := 1) C dX5_copy_119 rfl h120
    have h117 := zs_bipush (v := 24) C dX5_copy_117 (by decide) h119
    have h114 := zs_gR C dX5_copy_114 zf_5_16 zw_559 h117
    have h113 := zs_aload_n (i := 0) C dX5_copy_113 rfl h114
    have h111 := zs_iload (i := 6) C dX5_copy_111 h113
    have h108 := zs_gR C dX5_copy_108 zf_5_17 zw_560 h111
    have h107 := zs_aload_n (i := 0) C dX5_copy_107 rfl h108
    have h104 := zs_icmp_ge (tgt := 134) C dX5_copy_104 (by decide) h134 h107
    have h102 := zs_iload (i := 5) C dX5_copy_102 h104
    have h100 := zs_iload (i := 6) C dX5_copy_100 h102
    intro H locs ls L st μ r h hL hst hW hS
    obtain ⟨x0, x1, x2, x3, x4, x5, x6, rfl, rfl, h⟩ := k_X5_copy_L100_i h
    exact h100 H locs ls [some (.inr (.inr (5, x0))), some (.inl x1), some (.inl x2), some (.inl x3), some (.inl x4), some (.inl x5), some (.inl x6)] [] μ r h (hL.less ⟨rfl, rfl, rfl, rfl, rfl, rfl, rfl, trivial⟩) hst hW hS
def f_X5_copy (N : Nat) (x0 : Nat) (x1 : Int32) (x2 : Int32) (x3 : Int32) (x4 : Int32) (x5 : Int32) (μ : ZM) : Option (Int32 × ZM) :=
  (f_X5_isSheet N x1 μ).bind fun r1 =>
  if r1.1 = 0 then
    some ((-1), r1.2)
  else
    (f_X5_isSheet N x3 r1.2).bind fun r2 =>
    if ¬ r2.1 = 0 then
      if zk_o x1 4 = true then none else
      if (r2.2.1 (x0 + 8) (Int32.toNatClampNeg x1)) = 0 then
        some ((-11), r2.2)
      else
        if zk_o x3 4 = true then none else
        if ¬ (r2.2.1 (x0 + 8) (Int32.toNatClampNeg x3)) = 0 then
          if zk_o x1 4 = true then none else
          if zk_o x3 4 = true then none else
          if (r2.2.1 (x0 + 8) (Int32.toNatClampNeg x1)) = (r2.2.1 (x0 + 8) (Int32.toNatClampNeg x3)) then
            if zk_o x1 4 = true then none else
            (f_X5_findOf N x0 x1 ((r2.2.1 (x0 + 8) (Int32.toNatClampNeg x1)) - 1) x2 x5 r2.2).bind fun r3 =>
            if ¬ r3.1 = 0 then
              some ((-13), r3.2)
            else
              if zk_o x3 4 = true then none else
              (f_X5_findOf N x0 x3 ((r3.2.1 (x0 + 8) (Int32.toNatClampNeg x3)) - 1) x4 x5 r3.2).bind fun r4 =>
              if r4.1 = 0 then
                f_X5_copy_L100 N N x0 x1 x2 x3 x4 x5 0 r4.2
              else
                some ((-13), r4.2)
          else
            some ((-12), r2.2)
        else
          some ((-11), r2.2)
    else
      some ((-1), r2.2)
def g_X5_copy (N : Nat) (as : List ZV) (μ : ZM) : Option (Int32 × ZM) := match as with
  | [.inr (.inr (5, x0)), .inl x1, .inl x2, .inl x3, .inl x4, .inl x5] => f_X5_copy N x0 x1 x2 x3 x4 x5 μ
  | _ => none
theorem g_X5_copy_i {N : Nat} {as : List ZV} {μ : ZM} {r : Int32 × ZM} (h : g_X5_copy N as μ = some r) : ∃ (x0 : Nat) (x1 : Int32) (x2 : Int32) (x3 : Int32) (x4 : Int32) (x5 : Int32), as = [.inr (.inr (5, x0)), .inl x1, .inl x2, .inl x3, .inl x4, .inl x5] ∧ f_X5_copy N x0 x1 x2 x3 x4 x5 μ = some r := by
  unfold g_X5_copy at h
  split at h
  · exact ⟨_, _, _, _, _, _, rfl, h⟩
  · cases h
set_option maxRecDepth 100000 in
theorem c_X5_copy (N : Nat) : zk_C yX5_copy cX5_copy 7 (some .int) ({ frames := 2, cells := 0, slots := 0, locals := 42 } : Room) zq_I (g_X5_copy N) := by
  refine zk_met ?κ (by decide +kernel) ?hG ?body
  case body =>
    intro X E C
    have C : zk_X X E RX5 cX5_copy 7 (some .int) ({ frames := 2, cells := 0, slots := 0, locals := 42 } : Room) := C
    have e100 := s_X5_copy_L100 N C N
    have h98 := zs_istore (i := 6) C dX5_copy_98 e100
    have h97 := zs_iconst (v := 0) C dX5_copy_97 (by decide) h98
    have h96 := zs_iret C dX5_copy_96
    have h94 := zs_bipush (v := (-13)) C dX5_copy_94 (by decide) h96
    have h91 := zs_if_eq (tgt := 97) C dX5_copy_91 (by decide) h97 h94
    have h88 := zs_vI C dX5_copy_88 (m_X5_findOf N) zw_793 ⟨Nat.le_of_ble_eq_true rfl, Nat.le_of_ble_eq_true rfl⟩ h91
    have h86 := zs_iload (i := 5) C dX5_copy_86 h88
    have h84 := zs_iload (i := 4) C dX5_copy_84 h86
    have h83 := zs_isub C dX5_copy_83 h84
    have h82 := zs_iconst (v := 1) C dX5_copy_82 (by decide) h83
    have h81 := zs_iald (n := 4) C dX5_copy_81 (by decide) h82
    have h80 := zs_iload_n (i := 3) C dX5_copy_80 rfl h81
    have h77 := zs_gR C dX5_copy_77 zf_5_14 zw_557 h80
    have h76 := zs_aload_n (i := 0) C dX5_copy_76 rfl h77
    have h75 := zs_iload_n (i := 3) C dX5_copy_75 rfl h76
    have h74 := zs_aload_n (i := 0) C dX5_copy_74 rfl h75
    have h71 := zs_if_ne (tgt := 94) C dX5_copy_71 (by decide) h94 h74
    have h68 := zs_vI C dX5_copy_68 (m_X5_findOf N) zw_793 ⟨Nat.le_of_ble_eq_true rfl, Nat.le_of_ble_eq_true rfl⟩ h71
    have h66 := zs_iload (i := 5) C dX5_copy_66 h68
    have h65 := zs_iload_n (i := 2) C dX5_copy_65 rfl h66
    have h64 := zs_isub C dX5_copy_64 h65
    have h63 := zs_iconst (v := 1) C dX5_copy_63 (by decide) h64
    have h62 := zs_iald (n := 4) C dX5_copy_62 (by decide) h63
    have h61 := zs_iload_n (i := 1) C dX5_copy_61 rfl h62
    have h58 := zs_gR C dX5_copy_58 zf_5_14 zw_557 h61
    have h57 := zs_aload_n (i := 0) C dX5_copy_57 rfl h58
    have h56 := zs_iload_n (i := 1) C dX5_copy_56 rfl h57
    have h55 := zs_aload_n (i := 0) C dX5_copy_55 rfl h56
    have h54 := zs_iret C dX5_copy_54
    have h52 := zs_bipush (v := (-12)) C dX5_copy_52 (by decide) h54
    have h49 := zs_icmp_eq (tgt := 55) C dX5_copy_49 (by decide) h55 h52
    have h48 := zs_iald (n := 4) C dX5_copy_48 (by decide) h49
    have h47 := zs_iload_n (i := 3) C dX5_copy_47 rfl h48
    have h44 := zs_gR C dX5_copy_44 zf_5_14 zw_557 h47
    have h43 := zs_aload_n (i := 0) C dX5_copy_43 rfl h44
    have h42 := zs_iald (n := 4) C dX5_copy_42 (by decide) h43
    have h41 := zs_iload_n (i := 1) C dX5_copy_41 rfl h42
    have h38 := zs_gR C dX5_copy_38 zf_5_14 zw_557 h41
    have h37 := zs_aload_n (i := 0) C dX5_copy_37 rfl h38
    have h36 := zs_iret C dX5_copy_36
    have h34 := zs_bipush (v := (-11)) C dX5_copy_34 (by decide) h36
    have h31 := zs_if_ne (tgt := 37) C dX5_copy_31 (by decide) h37 h34
    have h30 := zs_iald (n := 4) C dX5_copy_30 (by decide) h31
    have h29 := zs_iload_n (i := 3) C dX5_copy_29 rfl h30
    have h26 := zs_gR C dX5_copy_26 zf_5_14 zw_557 h29
    have h25 := zs_aload_n (i := 0) C dX5_copy_25 rfl h26
    have h22 := zs_if_eq (tgt := 34) C dX5_copy_22 (by decide) h34 h25
    have h21 := zs_iald (n := 4) C dX5_copy_21 (by decide) h22
    have h20 := zs_iload_n (i := 1) C dX5_copy_20 rfl h21
    have h17 := zs_gR C dX5_copy_17 zf_5_14 zw_557 h20
    have h16 := zs_aload_n (i := 0) C dX5_copy_16 rfl h17
    have h15 := zs_iret C dX5_copy_15
    have h14 := zs_iconst (v := (-1)) C dX5_copy_14 (by decide) h15
    have h11 := zs_if_ne (tgt := 16) C dX5_copy_11 (by decide) h16 h14
    have h8 := zs_sI C dX5_copy_8 (m_X5_isSheet N) zw_790 ⟨Nat.le_of_ble_eq_true rfl, Nat.le_of_ble_eq_true rfl⟩ h11
    have h7 := zs_iload_n (i := 3) C dX5_copy_7 rfl h8
    have h4 := zs_if_eq (tgt := 14) C dX5_copy_4 (by decide) h14 h7
    have h1 := zs_sI C dX5_copy_1 (m_X5_isSheet N) zw_790 ⟨Nat.le_of_ble_eq_true rfl, Nat.le_of_ble_eq_true rfl⟩ h4
    have h0 := zs_iload_n (i := 1) C dX5_copy_0 rfl h1
    exact h0
  case hG =>
    intro as μ r h
    obtain ⟨x0, x1, x2, x3, x4, x5, rfl, h⟩ := g_X5_copy_i h
    exact ⟨Nat.le_of_ble_eq_true rfl, h⟩
theorem m_X5_copy (N : Nat) : zk_MV yX5_copy cX5_copy 7 (some .int) ({ frames := 2, cells := 0, slots := 0, locals := 42 } : Room) zq_I (g_X5_copy N) 5 5 := ⟨c_X5_copy N, zw_823, zw_821, zw_822, zw_31, rfl, rfl, by decide +kernel, by decide, ⟨TX5, 18, rfl⟩, fun as μ r h => by obtain ⟨x0, x1, x2, x3, x4, x5, rfl, -⟩ := g_X5_copy_i h; exact ⟨_, _, rfl⟩⟩
