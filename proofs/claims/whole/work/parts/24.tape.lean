-- LongestWed$Tape.write(I)I
def f_X2_write (N : Nat) (x0 : Nat) (x1 : Int32) (μ : ZM) : Option (Int32 × ZM) :=
  if (80 : Int32) ≤ (μ.1 x0 1) then
    some ((μ.1 x0 1), μ)
  else
    if zk_o (μ.1 x0 1) 80 = true then none else
    let μ1 := zk_si μ (x0 + 1) (Int32.toNatClampNeg (μ.1 x0 1)) x1
    let μ2 := zk_si μ1 x0 1 ((μ1.1 x0 1) + 1)
    some ((μ2.1 x0 1), μ2)
def g_X2_write (N : Nat) (as : List ZV) (μ : ZM) : Option (Int32 × ZM) := match as with
  | [.inr (.inr (2, x0)), .inl x1] => f_X2_write N x0 x1 μ
  | _ => none
theorem g_X2_write_i {N : Nat} {as : List ZV} {μ : ZM} {r : Int32 × ZM} (h : g_X2_write N as μ = some r) : ∃ (x0 : Nat) (x1 : Int32), as = [.inr (.inr (2, x0)), .inl x1] ∧ f_X2_write N x0 x1 μ = some r := by
  unfold g_X2_write at h
  split at h
  · exact ⟨_, _, rfl, h⟩
  · cases h
set_option maxRecDepth 100000 in
theorem c_X2_write (N : Nat) : zk_C yX2_write cX2_write 2 (some .int) ({ frames := 0, cells := 0, slots := 0, locals := 0 } : Room) zq_I (g_X2_write N) := by
  refine zk_met ?κ (by decide +kernel) ?hG ?body
  case body =>
    intro X E C
    have C : zk_X X E RX2 cX2_write 2 (some .int) ({ frames := 0, cells := 0, slots := 0, locals := 0 } : Room) := C
    have h33 := zs_iret C dX2_write_33
    have h30 := zs_gI C dX2_write_30 zf_2_1 zw_110 h33
    have h29 := zs_aload_n (i := 0) C dX2_write_29 rfl h30
    have h26 := zs_pI C dX2_write_26 zf_2_1 zw_110 rfl (by decide +kernel) h29
    have h25 := zs_iadd C dX2_write_25 h26
    have h24 := zs_iconst (v := 1) C dX2_write_24 (by decide) h25
    have h21 := zs_gI C dX2_write_21 zf_2_1 zw_110 h24
    have h20 := zs_dup C dX2_write_20 h21
    have h19 := zs_aload_n (i := 0) C dX2_write_19 rfl h20
    have h18 := zs_iast (n := 80) C dX2_write_18 (by decide) h19
    have h17 := zs_iload_n (i := 1) C dX2_write_17 rfl h18
    have h14 := zs_gI C dX2_write_14 zf_2_1 zw_110 h17
    have h13 := zs_aload_n (i := 0) C dX2_write_13 rfl h14
    have h10 := zs_gR C dX2_write_10 zf_2_0 zw_109 h13
    have h9 := zs_aload_n (i := 0) C dX2_write_9 rfl h10
    have h6 := zs_icmp_ge (tgt := 29) C dX2_write_6 (by decide) h29 h9
    have h4 := zs_bipush (v := 80) C dX2_write_4 (by decide) h6
    have h1 := zs_gI C dX2_write_1 zf_2_1 zw_110 h4
    have h0 := zs_aload_n (i := 0) C dX2_write_0 rfl h1
    exact h0
  case hG =>
    intro as μ r h
    obtain ⟨x0, x1, rfl, h⟩ := g_X2_write_i h
    exact ⟨Nat.le_of_ble_eq_true rfl, h⟩
theorem m_X2_write (N : Nat) : zk_MV yX2_write cX2_write 2 (some .int) ({ frames := 0, cells := 0, slots := 0, locals := 0 } : Room) zq_I (g_X2_write N) 1 2 := ⟨c_X2_write N, zw_225, zw_223, zw_224, zw_29, rfl, rfl, by decide +kernel, by decide, ⟨TX2, 4, rfl⟩, fun as μ r h => by obtain ⟨x0, x1, rfl, -⟩ := g_X2_write_i h; exact ⟨_, _, rfl⟩⟩
-- LongestWed$Tape.letterAt(I)I
def f_X2_letterAt (N : Nat) (x0 : Nat) (x1 : Int32) (μ : ZM) : Option (Int32 × ZM) :=
  if x1 < 0 then
    some ((-1), μ)
  else
    if (μ.1 x0 1) ≤ x1 then
      some ((-1), μ)
    else
      if (80 : Int32) ≤ x1 then
        some ((-1), μ)
      else
        if zk_o x1 80 = true then none else
        some ((μ.1 (x0 + 1) (Int32.toNatClampNeg x1)), μ)
def g_X2_letterAt (N : Nat) (as : List ZV) (μ : ZM) : Option (Int32 × ZM) := match as with
  | [.inr (.inr (2, x0)), .inl x1] => f_X2_letterAt N x0 x1 μ
  | _ => none
theorem g_X2_letterAt_i {N : Nat} {as : List ZV} {μ : ZM} {r : Int32 × ZM} (h : g_X2_letterAt N as μ = some r) : ∃ (x0 : Nat) (x1 : Int32), as = [.inr (.inr (2, x0)), .inl x1] ∧ f_X2_letterAt N x0 x1 μ = some r := by
  unfold g_X2_letterAt at h
  split at h
  · exact ⟨_, _, rfl, h⟩
  · cases h
set_option maxRecDepth 100000 in
theorem c_X2_letterAt (N : Nat) : zk_C yX2_letterAt cX2_letterAt 2 (some .int) ({ frames := 0, cells := 0, slots := 0, locals := 0 } : Room) zq_I (g_X2_letterAt N) := by
  refine zk_met ?κ (by decide +kernel) ?hG ?body
  case body =>
    intro X E C
    have C : zk_X X E RX2 cX2_letterAt 2 (some .int) ({ frames := 0, cells := 0, slots := 0, locals := 0 } : Room) := C
    have h28 := zs_iret C dX2_letterAt_28
    have h27 := zs_iconst (v := (-1)) C dX2_letterAt_27 (by decide) h28
    have h24 := zs_goto (tgt := 28) C dX2_letterAt_24 (by decide) h28
    have h23 := zs_iald (n := 80) C dX2_letterAt_23 (by decide) h24
    have h22 := zs_iload_n (i := 1) C dX2_letterAt_22 rfl h23
    have h19 := zs_gR C dX2_letterAt_19 zf_2_0 zw_109 h22
    have h18 := zs_aload_n (i := 0) C dX2_letterAt_18 rfl h19
    have h15 := zs_icmp_ge (tgt := 27) C dX2_letterAt_15 (by decide) h27 h18
    have h13 := zs_bipush (v := 80) C dX2_letterAt_13 (by decide) h15
    have h12 := zs_iload_n (i := 1) C dX2_letterAt_12 rfl h13
    have h9 := zs_icmp_ge (tgt := 27) C dX2_letterAt_9 (by decide) h27 h12
    have h6 := zs_gI C dX2_letterAt_6 zf_2_1 zw_110 h9
    have h5 := zs_aload_n (i := 0) C dX2_letterAt_5 rfl h6
    have h4 := zs_iload_n (i := 1) C dX2_letterAt_4 rfl h5
    have h1 := zs_if_lt (tgt := 27) C dX2_letterAt_1 (by decide) h27 h4
    have h0 := zs_iload_n (i := 1) C dX2_letterAt_0 rfl h1
    exact h0
  case hG =>
    intro as μ r h
    obtain ⟨x0, x1, rfl, h⟩ := g_X2_letterAt_i h
    exact ⟨Nat.le_of_ble_eq_true rfl, h⟩
theorem m_X2_letterAt (N : Nat) : zk_MV yX2_letterAt cX2_letterAt 2 (some .int) ({ frames := 0, cells := 0, slots := 0, locals := 0 } : Room) zq_I (g_X2_letterAt N) 1 2 := ⟨c_X2_letterAt N, zw_249, zw_247, zw_248, zw_29, rfl, rfl, by decide +kernel, by decide, ⟨TX2, 4, rfl⟩, fun as μ r h => by obtain ⟨x0, x1, rfl, -⟩ := g_X2_letterAt_i h; exact ⟨_, _, rfl⟩⟩
-- LongestWed$Tape.skipBlanks()V
def f_X2_skipBlanks_L0 (N : Nat) : Nat → Nat → ZM → Option (ZM)
  | 0, _, _ => none
  | n + 1, x0, μ =>
    if (μ.1 x0 1) ≤ (μ.1 x0 2) then
      some μ
    else
      (f_X2_letterAt N x0 (μ.1 x0 2) μ).bind fun r1 =>
      if ¬ r1.1 = (32 : Int32) then
        some r1.2
      else
        let μ2 := zk_si r1.2 x0 2 ((r1.2.1 x0 2) + 1)
        f_X2_skipBlanks_L0 N n x0 μ2
def k_X2_skipBlanks_L0 (N n : Nat) : ZK (ZM) := fun L st μ => match L, st with
  | [some (.inr (.inr (2, x0)))], [] => f_X2_skipBlanks_L0 N n x0 μ
  | _, _ => none
theorem k_X2_skipBlanks_L0_i {N : Nat} {n : Nat} {L : ZL} {st : List ZV} {μ : ZM} {r : ZM} (h : k_X2_skipBlanks_L0 N n L st μ = some r) : ∃ (x0 : Nat), L = [some (.inr (.inr (2, x0)))] ∧ st = [] ∧ f_X2_skipBlanks_L0 N n x0 μ = some r := by
  unfold k_X2_skipBlanks_L0 at h
  split at h
  · exact ⟨_, rfl, rfl, h⟩
  · cases h
set_option maxRecDepth 100000 in
theorem s_X2_skipBlanks_L0 (N : Nat) {X : ZX} {E : ZE} (C : zk_X X E RX2 cX2_skipBlanks 1 none ({ frames := 1, cells := 0, slots := 0, locals := 21 } : Room)) : ∀ n, zk_S X E 1 zq_V 0 (k_X2_skipBlanks_L0 N n) := by
  intro n
  induction n with
  | zero =>
    intro H locs ls L st μ r h hL hst hW hS
    obtain ⟨x0, rfl, rfl, h⟩ := k_X2_skipBlanks_L0_i h
    exact nomatch (show none = some r from h)
  | succ n ih =>
    have h37 := zs_vret C dX2_skipBlanks_37
    have h34 := zs_goto (tgt := 0) C dX2_skipBlanks_34 (by decide) ih
    have h31 := zs_pI C dX2_skipBlanks_31 zf_2_2 zw_112 rfl (by decide +kernel) h34
    have h30 := zs_iadd C dX2_skipBlanks_30 h31
    have h29 := zs_iconst (v := 1) C dX2_skipBlanks_29 (by decide) h30
    have h26 := zs_gI C dX2_skipBlanks_26 zf_2_2 zw_112 h29
    have h25 := zs_dup C dX2_skipBlanks_25 h26
    have h24 := zs_aload_n (i := 0) C dX2_skipBlanks_24 rfl h25
    have h21 := zs_icmp_ne (tgt := 37) C dX2_skipBlanks_21 (by decide) h37 h24
    have h19 := zs_bipush (v := 32) C dX2_skipBlanks_19 (by decide) h21
    have h16 := zs_vI C dX2_skipBlanks_16 (m_X2_letterAt N) zw_246 ⟨Nat.le_of_ble_eq_true rfl, Nat.le_of_ble_eq_true rfl⟩ h19
    have h13 := zs_gI C dX2_skipBlanks_13 zf_2_2 zw_112 h16
    have h12 := zs_aload_n (i := 0) C dX2_skipBlanks_12 rfl h13
    have h11 := zs_aload_n (i := 0) C dX2_skipBlanks_11 rfl h12
    have h8 := zs_icmp_ge (tgt := 37) C dX2_skipBlanks_8 (by decide) h37 h11
    have h5 := zs_gI C dX2_skipBlanks_5 zf_2_1 zw_110 h8
    have h4 := zs_aload_n (i := 0) C dX2_skipBlanks_4 rfl h5
    have h1 := zs_gI C dX2_skipBlanks_1 zf_2_2 zw_112 h4
    have h0 := zs_aload_n (i := 0) C dX2_skipBlanks_0 rfl h1
    intro H locs ls L st μ r h hL hst hW hS
    obtain ⟨x0, rfl, rfl, h⟩ := k_X2_skipBlanks_L0_i h
    exact h0 H locs ls [some (.inr (.inr (2, x0)))] [] μ r h (hL.less ⟨rfl, trivial⟩) hst hW hS
def f_X2_skipBlanks (N : Nat) (x0 : Nat) (μ : ZM) : Option (ZM) :=
  f_X2_skipBlanks_L0 N N x0 μ
def g_X2_skipBlanks (N : Nat) (as : List ZV) (μ : ZM) : Option (ZM) := match as with
  | [.inr (.inr (2, x0))] => f_X2_skipBlanks N x0 μ
  | _ => none
theorem g_X2_skipBlanks_i {N : Nat} {as : List ZV} {μ : ZM} {r : ZM} (h : g_X2_skipBlanks N as μ = some r) : ∃ (x0 : Nat), as = [.inr (.inr (2, x0))] ∧ f_X2_skipBlanks N x0 μ = some r := by
  unfold g_X2_skipBlanks at h
  split at h
  · exact ⟨_, rfl, h⟩
  · cases h
set_option maxRecDepth 100000 in
theorem c_X2_skipBlanks (N : Nat) : zk_C yX2_skipBlanks cX2_skipBlanks 1 none ({ frames := 1, cells := 0, slots := 0, locals := 21 } : Room) zq_V (g_X2_skipBlanks N) := by
  refine zk_met ?κ (by decide +kernel) ?hG ?body
  case body =>
    intro X E C
    have C : zk_X X E RX2 cX2_skipBlanks 1 none ({ frames := 1, cells := 0, slots := 0, locals := 21 } : Room) := C
    have e0 := s_X2_skipBlanks_L0 N C N
    exact e0
  case hG =>
    intro as μ r h
    obtain ⟨x0, rfl, h⟩ := g_X2_skipBlanks_i h
    exact ⟨Nat.le_of_ble_eq_true rfl, h⟩
theorem m_X2_skipBlanks (N : Nat) : zk_MV yX2_skipBlanks cX2_skipBlanks 1 none ({ frames := 1, cells := 0, slots := 0, locals := 21 } : Room) zq_V (g_X2_skipBlanks N) 0 2 := ⟨c_X2_skipBlanks N, zw_245, zw_243, zw_244, zw_29, rfl, rfl, by decide +kernel, by decide, ⟨TX2, 4, rfl⟩, fun as μ r h => by obtain ⟨x0, rfl, -⟩ := g_X2_skipBlanks_i h; exact ⟨_, _, rfl⟩⟩
-- LongestWed$Tape.isAtEnd()Z
def f_X2_isAtEnd (N : Nat) (x0 : Nat) (μ : ZM) : Option (Int32 × ZM) :=
  (f_X2_skipBlanks N x0 μ).bind fun r1 =>
  let μ2 := zk_si r1 x0 3 (r1.1 x0 2)
  if (μ2.1 x0 2) < (μ2.1 x0 1) then
    zk_zr 0 μ2
  else
    zk_zr 1 μ2
def g_X2_isAtEnd (N : Nat) (as : List ZV) (μ : ZM) : Option (Int32 × ZM) := match as with
  | [.inr (.inr (2, x0))] => f_X2_isAtEnd N x0 μ
  | _ => none
theorem g_X2_isAtEnd_i {N : Nat} {as : List ZV} {μ : ZM} {r : Int32 × ZM} (h : g_X2_isAtEnd N as μ = some r) : ∃ (x0 : Nat), as = [.inr (.inr (2, x0))] ∧ f_X2_isAtEnd N x0 μ = some r := by
  unfold g_X2_isAtEnd at h
  split at h
  · exact ⟨_, rfl, h⟩
  · cases h
set_option maxRecDepth 100000 in
theorem c_X2_isAtEnd (N : Nat) : zk_C yX2_isAtEnd cX2_isAtEnd 1 (some .boolean) ({ frames := 2, cells := 0, slots := 0, locals := 41 } : Room) zq_I (g_X2_isAtEnd N) := by
  refine zk_met ?κ (by decide +kernel) ?hG ?body
  case body =>
    intro X E C
    have C : zk_X X E RX2 cX2_isAtEnd 1 (some .boolean) ({ frames := 2, cells := 0, slots := 0, locals := 41 } : Room) := C
    have h28 := zs_zret C dX2_isAtEnd_28
    have h27 := zs_iconst (v := 0) C dX2_isAtEnd_27 (by decide) h28
    have h24 := zs_goto (tgt := 28) C dX2_isAtEnd_24 (by decide) h28
    have h23 := zs_iconst (v := 1) C dX2_isAtEnd_23 (by decide) h24
    have h20 := zs_icmp_lt (tgt := 27) C dX2_isAtEnd_20 (by decide) h27 h23
    have h17 := zs_gI C dX2_isAtEnd_17 zf_2_1 zw_110 h20
    have h16 := zs_aload_n (i := 0) C dX2_isAtEnd_16 rfl h17
    have h13 := zs_gI C dX2_isAtEnd_13 zf_2_2 zw_112 h16
    have h12 := zs_aload_n (i := 0) C dX2_isAtEnd_12 rfl h13
    have h9 := zs_pI C dX2_isAtEnd_9 zf_2_3 zw_113 rfl (by decide +kernel) h12
    have h6 := zs_gI C dX2_isAtEnd_6 zf_2_2 zw_112 h9
    have h5 := zs_aload_n (i := 0) C dX2_isAtEnd_5 rfl h6
    have h4 := zs_aload_n (i := 0) C dX2_isAtEnd_4 rfl h5
    have h1 := zs_vV C dX2_isAtEnd_1 (m_X2_skipBlanks N) zw_242 ⟨Nat.le_of_ble_eq_true rfl, Nat.le_of_ble_eq_true rfl⟩ h4
    have h0 := zs_aload_n (i := 0) C dX2_isAtEnd_0 rfl h1
    exact h0
  case hG =>
    intro as μ r h
    obtain ⟨x0, rfl, h⟩ := g_X2_isAtEnd_i h
    exact ⟨Nat.le_of_ble_eq_true rfl, h⟩
theorem m_X2_isAtEnd (N : Nat) : zk_MV yX2_isAtEnd cX2_isAtEnd 1 (some .boolean) ({ frames := 2, cells := 0, slots := 0, locals := 41 } : Room) zq_I (g_X2_isAtEnd N) 0 2 := ⟨c_X2_isAtEnd N, zw_268, zw_266, zw_267, zw_29, rfl, rfl, by decide +kernel, by decide, ⟨TX2, 4, rfl⟩, fun as μ r h => by obtain ⟨x0, rfl, -⟩ := g_X2_isAtEnd_i h; exact ⟨_, _, rfl⟩⟩
-- LongestWed$Tape.kindOf(I)I
def f_X2_kindOf (N : Nat) (x0 : Int32) (μ : ZM) : Option (Int32 × ZM) :=
  if x0 = 98 then
    some (4, μ)
  else
  if x0 = 100 then
    some (1, μ)
  else
  if x0 = 108 then
    some (3, μ)
  else
  if x0 = 112 then
    some (0, μ)
  else
  if x0 = 115 then
    some (2, μ)
  else
    some ((-1), μ)
def g_X2_kindOf (N : Nat) (as : List ZV) (μ : ZM) : Option (Int32 × ZM) := match as with
  | [.inl x0] => f_X2_kindOf N x0 μ
  | _ => none
theorem g_X2_kindOf_i {N : Nat} {as : List ZV} {μ : ZM} {r : Int32 × ZM} (h : g_X2_kindOf N as μ = some r) : ∃ (x0 : Int32), as = [.inl x0] ∧ f_X2_kindOf N x0 μ = some r := by
  unfold g_X2_kindOf at h
  split at h
  · exact ⟨_, rfl, h⟩
  · cases h
set_option maxRecDepth 100000 in
theorem c_X2_kindOf (N : Nat) : zk_C yX2_kindOf cX2_kindOf 1 (some .int) ({ frames := 0, cells := 0, slots := 0, locals := 0 } : Room) zq_I (g_X2_kindOf N) := by
  refine zk_met ?κ (by decide +kernel) ?hG ?body
  case body =>
    intro X E C
    have C : zk_X X E RX2 cX2_kindOf 1 (some .int) ({ frames := 0, cells := 0, slots := 0, locals := 0 } : Room) := C
    have h63 := zs_iret C dX2_kindOf_63
    have h62 := zs_iconst (v := (-1)) C dX2_kindOf_62 (by decide) h63
    have h61 := zs_iret C dX2_kindOf_61
    have h60 := zs_iconst (v := 4) C dX2_kindOf_60 (by decide) h61
    have h59 := zs_iret C dX2_kindOf_59
    have h58 := zs_iconst (v := 3) C dX2_kindOf_58 (by decide) h59
    have h57 := zs_iret C dX2_kindOf_57
    have h56 := zs_iconst (v := 2) C dX2_kindOf_56 (by decide) h57
    have h55 := zs_iret C dX2_kindOf_55
    have h54 := zs_iconst (v := 1) C dX2_kindOf_54 (by decide) h55
    have h53 := zs_iret C dX2_kindOf_53
    have h52 := zs_iconst (v := 0) C dX2_kindOf_52 (by decide) h53
    have h1 := zs_look (q := zq_I) (cs := [(98, _), (100, _), (108, _), (112, _), (115, _)]) (xs := [98, 100, 108, 112, 115]) (tg := (fun x => if x = 98 then 60 else if x = 100 then 54 else if x = 108 then 58 else if x = 112 then 52 else if x = 115 then 56 else 0)) (tgt := 62) rfl C dX2_kindOf_1 (by decide) (by decide) (by decide +kernel) (fun z hz => by simp at hz; simp [Op.lookupswitch.offset]; omega) (List.forall_mem_cons.mpr ⟨h60, (List.forall_mem_cons.mpr ⟨h54, (List.forall_mem_cons.mpr ⟨h58, (List.forall_mem_cons.mpr ⟨h52, (List.forall_mem_cons.mpr ⟨h56, (fun _ h => absurd h List.not_mem_nil)⟩)⟩)⟩)⟩)⟩) h62
    have h0 := zs_iload_n (i := 0) C dX2_kindOf_0 rfl h1
    exact h0
  case hG =>
    intro as μ r h
    obtain ⟨x0, rfl, h⟩ := g_X2_kindOf_i h
    exact ⟨Nat.le_of_ble_eq_true rfl, h⟩
theorem m_X2_kindOf (N : Nat) : zk_MS yX2_kindOf cX2_kindOf 1 (some .int) ({ frames := 0, cells := 0, slots := 0, locals := 0 } : Room) zq_I (g_X2_kindOf N) 1 := ⟨c_X2_kindOf N, zw_252, zw_251, zw_29, rfl, rfl, by decide +kernel⟩
-- LongestWed$Tape.isDigit(I)Z
def f_X2_isDigit (N : Nat) (x0 : Int32) (μ : ZM) : Option (Int32 × ZM) :=
  if x0 < (48 : Int32) then
    zk_zr 0 μ
  else
    if (57 : Int32) < x0 then
      zk_zr 0 μ
    else
      zk_zr 1 μ
def g_X2_isDigit (N : Nat) (as : List ZV) (μ : ZM) : Option (Int32 × ZM) := match as with
  | [.inl x0] => f_X2_isDigit N x0 μ
  | _ => none
theorem g_X2_isDigit_i {N : Nat} {as : List ZV} {μ : ZM} {r : Int32 × ZM} (h : g_X2_isDigit N as μ = some r) : ∃ (x0 : Int32), as = [.inl x0] ∧ f_X2_isDigit N x0 μ = some r := by
  unfold g_X2_isDigit at h
  split at h
  · exact ⟨_, rfl, h⟩
  · cases h
set_option maxRecDepth 100000 in
theorem c_X2_isDigit (N : Nat) : zk_C yX2_isDigit cX2_isDigit 1 (some .boolean) ({ frames := 0, cells := 0, slots := 0, locals := 0 } : Room) zq_I (g_X2_isDigit N) := by
  refine zk_met ?κ (by decide +kernel) ?hG ?body
  case body =>
    intro X E C
    have C : zk_X X E RX2 cX2_isDigit 1 (some .boolean) ({ frames := 0, cells := 0, slots := 0, locals := 0 } : Room) := C
    have h17 := zs_zret C dX2_isDigit_17
    have h16 := zs_iconst (v := 0) C dX2_isDigit_16 (by decide) h17
    have h13 := zs_goto (tgt := 17) C dX2_isDigit_13 (by decide) h17
    have h12 := zs_iconst (v := 1) C dX2_isDigit_12 (by decide) h13
    have h9 := zs_icmp_gt (tgt := 16) C dX2_isDigit_9 (by decide) h16 h12
    have h7 := zs_bipush (v := 57) C dX2_isDigit_7 (by decide) h9
    have h6 := zs_iload_n (i := 0) C dX2_isDigit_6 rfl h7
    have h3 := zs_icmp_lt (tgt := 16) C dX2_isDigit_3 (by decide) h16 h6
    have h1 := zs_bipush (v := 48) C dX2_isDigit_1 (by decide) h3
    have h0 := zs_iload_n (i := 0) C dX2_isDigit_0 rfl h1
    exact h0
  case hG =>
    intro as μ r h
    obtain ⟨x0, rfl, h⟩ := g_X2_isDigit_i h
    exact ⟨Nat.le_of_ble_eq_true rfl, h⟩
theorem m_X2_isDigit (N : Nat) : zk_MS yX2_isDigit cX2_isDigit 1 (some .boolean) ({ frames := 0, cells := 0, slots := 0, locals := 0 } : Room) zq_I (g_X2_isDigit N) 1 := ⟨c_X2_isDigit N, zw_259, zw_258, zw_29, rfl, rfl, by decide +kernel⟩
-- LongestWed$Tape.readNumber(II)I
def f_X2_readNumber_J96 (N : Nat) (x0 : Nat) (x1 : Int32) (x2 : Int32) (x3 : Int32) (x4 : Int32) (μ : ZM) : Option (Int32 × ZM) :=
  let j108 : Unit → Option (Int32 × ZM) := fun u1 =>
    let μ2 := zk_si μ x0 3 x3
    some ((-1), μ2)
  if x4 < x1 then
    j108 ()
  else
    if x4 ≤ x2 then
      some (x4, μ)
    else
      j108 ()
def k_X2_readNumber_J96 (N : Nat) : ZK (Int32 × ZM) := fun L st μ => match L, st with
  | [some (.inr (.inr (2, x0))), some (.inl x1), some (.inl x2), some (.inl x3), some (.inl x4)], [] => f_X2_readNumber_J96 N x0 x1 x2 x3 x4 μ
  | _, _ => none
theorem k_X2_readNumber_J96_i {N : Nat} {L : ZL} {st : List ZV} {μ : ZM} {r : Int32 × ZM} (h : k_X2_readNumber_J96 N L st μ = some r) : ∃ (x0 : Nat) (x1 : Int32) (x2 : Int32) (x3 : Int32) (x4 : Int32), L = [some (.inr (.inr (2, x0))), some (.inl x1), some (.inl x2), some (.inl x3), some (.inl x4)] ∧ st = [] ∧ f_X2_readNumber_J96 N x0 x1 x2 x3 x4 μ = some r := by
  unfold k_X2_readNumber_J96 at h
  split at h
  · exact ⟨_, _, _, _, _, rfl, rfl, h⟩
  · cases h
set_option maxRecDepth 100000 in
theorem s_X2_readNumber_J96 (N : Nat) {X : ZX} {E : ZE} (C : zk_X X E RX2 cX2_readNumber 5 (some .int) ({ frames := 2, cells := 0, slots := 0, locals := 41 } : Room)) : zk_S X E 5 zq_I 96 (k_X2_readNumber_J96 N) := by
  have h117 := zs_iret C dX2_readNumber_117
  have h115 := zs_iload (i := 4) C dX2_readNumber_115 h117
  have h114 := zs_iret C dX2_readNumber_114
  have h113 := zs_iconst (v := (-1)) C dX2_readNumber_113 (by decide) h114
  have h110 := zs_pI C dX2_readNumber_110 zf_2_3 zw_113 rfl (by decide +kernel) h113
  have h109 := zs_iload_n (i := 3) C dX2_readNumber_109 rfl h110
  have h108 := zs_aload_n (i := 0) C dX2_readNumber_108 rfl h109
  have h105 := zs_icmp_le (tgt := 115) C dX2_readNumber_105 (by decide) h115 h108
  have h104 := zs_iload_n (i := 2) C dX2_readNumber_104 rfl h105
  have h102 := zs_iload (i := 4) C dX2_readNumber_102 h104
  have h99 := zs_icmp_lt (tgt := 108) C dX2_readNumber_99 (by decide) h108 h102
  have h98 := zs_iload_n (i := 1) C dX2_readNumber_98 rfl h99
  have h96 := zs_iload (i := 4) C dX2_readNumber_96 h98
  intro H locs ls L st μ r h hL hst hW hS
  obtain ⟨x0, x1, x2, x3, x4, rfl, rfl, h⟩ := k_X2_readNumber_J96_i h
  exact h96 H locs ls [some (.inr (.inr (2, x0))), some (.inl x1), some (.inl x2), some (.inl x3), some (.inl x4)] [] μ r h (hL.less ⟨rfl, rfl, rfl, rfl, rfl, trivial⟩) hst hW hS
def f_X2_readNumber (N : Nat) (x0 : Nat) (x1 : Int32) (x2 : Int32) (μ : ZM) : Option (Int32 × ZM) :=
  (f_X2_skipBlanks N x0 μ).bind fun r1 =>
  (f_X2_letterAt N x0 (r1.1 x0 2) r1).bind fun r2 =>
  (f_X2_isDigit N r2.1 r2.2).bind fun r3 =>
  if ¬ r3.1 = 0 then
    (f_X2_letterAt N x0 (r3.2.1 x0 2) r3.2).bind fun r4 =>
    let μ5 := zk_si r4.2 x0 2 ((r4.2.1 x0 2) + 1)
    (f_X2_letterAt N x0 (μ5.1 x0 2) μ5).bind fun r6 =>
    (f_X2_isDigit N r6.1 r6.2).bind fun r7 =>
    if r7.1 = 0 then
      f_X2_readNumber_J96 N x0 x1 x2 (r1.1 x0 2) (r4.1 - 48) r7.2
    else
      (f_X2_letterAt N x0 (r7.2.1 x0 2) r7.2).bind fun r8 =>
      let μ9 := zk_si r8.2 x0 2 ((r8.2.1 x0 2) + 1)
      f_X2_readNumber_J96 N x0 x1 x2 (r1.1 x0 2) ((((r4.1 - 48) * 10) + r8.1) - 48) μ9
  else
    let μ10 := zk_si r3.2 x0 3 (r1.1 x0 2)
    some ((-1), μ10)
def g_X2_readNumber (N : Nat) (as : List ZV) (μ : ZM) : Option (Int32 × ZM) := match as with
  | [.inr (.inr (2, x0)), .inl x1, .inl x2] => f_X2_readNumber N x0 x1 x2 μ
  | _ => none
theorem g_X2_readNumber_i {N : Nat} {as : List ZV} {μ : ZM} {r : Int32 × ZM} (h : g_X2_readNumber N as μ = some r) : ∃ (x0 : Nat) (x1 : Int32) (x2 : Int32), as = [.inr (.inr (2, x0)), .inl x1, .inl x2] ∧ f_X2_readNumber N x0 x1 x2 μ = some r := by
  unfold g_X2_readNumber at h
  split at h
  · exact ⟨_, _, _, rfl, h⟩
  · cases h
set_option maxRecDepth 100000 in
theorem c_X2_readNumber (N : Nat) : zk_C yX2_readNumber cX2_readNumber 5 (some .int) ({ frames := 2, cells := 0, slots := 0, locals := 41 } : Room) zq_I (g_X2_readNumber N) := by
  refine zk_met ?κ (by decide +kernel) ?hG ?body
  case body =>
    intro X E C
    have C : zk_X X E RX2 cX2_readNumber 5 (some .int) ({ frames := 2, cells := 0, slots := 0, locals := 41 } : Room) := C
    have e96 := s_X2_readNumber_J96 N C
    have h93 := zs_pI C dX2_readNumber_93 zf_2_2 zw_112 rfl (by decide +kernel) e96
    have h92 := zs_iadd C dX2_readNumber_92 h93
    have h91 := zs_iconst (v := 1) C dX2_readNumber_91 (by decide) h92
    have h88 := zs_gI C dX2_readNumber_88 zf_2_2 zw_112 h91
    have h87 := zs_dup C dX2_readNumber_87 h88
    have h86 := zs_aload_n (i := 0) C dX2_readNumber_86 rfl h87
    have h84 := zs_istore (i := 4) C dX2_readNumber_84 h86
    have h83 := zs_isub C dX2_readNumber_83 h84
    have h81 := zs_bipush (v := 48) C dX2_readNumber_81 (by decide) h83
    have h80 := zs_iadd C dX2_readNumber_80 h81
    have h77 := zs_vI C dX2_readNumber_77 (m_X2_letterAt N) zw_246 ⟨Nat.le_of_ble_eq_true rfl, Nat.le_of_ble_eq_true rfl⟩ h80
    have h74 := zs_gI C dX2_readNumber_74 zf_2_2 zw_112 h77
    have h73 := zs_aload_n (i := 0) C dX2_readNumber_73 rfl h74
    have h72 := zs_aload_n (i := 0) C dX2_readNumber_72 rfl h73
    have h71 := zs_imul C dX2_readNumber_71 h72
    have h69 := zs_bipush (v := 10) C dX2_readNumber_69 (by decide) h71
    have h67 := zs_iload (i := 4) C dX2_readNumber_67 h69
    have h64 := zs_if_eq (tgt := 96) C dX2_readNumber_64 (by decide) e96 h67
    have h61 := zs_sI C dX2_readNumber_61 (m_X2_isDigit N) zw_257 ⟨Nat.le_of_ble_eq_true rfl, Nat.le_of_ble_eq_true rfl⟩ h64
    have h58 := zs_vI C dX2_readNumber_58 (m_X2_letterAt N) zw_246 ⟨Nat.le_of_ble_eq_true rfl, Nat.le_of_ble_eq_true rfl⟩ h61
    have h55 := zs_gI C dX2_readNumber_55 zf_2_2 zw_112 h58
    have h54 := zs_aload_n (i := 0) C dX2_readNumber_54 rfl h55
    have h53 := zs_aload_n (i := 0) C dX2_readNumber_53 rfl h54
    have h50 := zs_pI C dX2_readNumber_50 zf_2_2 zw_112 rfl (by decide +kernel) h53
    have h49 := zs_iadd C dX2_readNumber_49 h50
    have h48 := zs_iconst (v := 1) C dX2_readNumber_48 (by decide) h49
    have h45 := zs_gI C dX2_readNumber_45 zf_2_2 zw_112 h48
    have h44 := zs_dup C dX2_readNumber_44 h45
    have h43 := zs_aload_n (i := 0) C dX2_readNumber_43 rfl h44
    have h41 := zs_istore (i := 4) C dX2_readNumber_41 h43
    have h40 := zs_isub C dX2_readNumber_40 h41
    have h38 := zs_bipush (v := 48) C dX2_readNumber_38 (by decide) h40
    have h35 := zs_vI C dX2_readNumber_35 (m_X2_letterAt N) zw_246 ⟨Nat.le_of_ble_eq_true rfl, Nat.le_of_ble_eq_true rfl⟩ h38
    have h32 := zs_gI C dX2_readNumber_32 zf_2_2 zw_112 h35
    have h31 := zs_aload_n (i := 0) C dX2_readNumber_31 rfl h32
    have h30 := zs_aload_n (i := 0) C dX2_readNumber_30 rfl h31
    have h29 := zs_iret C dX2_readNumber_29
    have h28 := zs_iconst (v := (-1)) C dX2_readNumber_28 (by decide) h29
    have h25 := zs_pI C dX2_readNumber_25 zf_2_3 zw_113 rfl (by decide +kernel) h28
    have h24 := zs_iload_n (i := 3) C dX2_readNumber_24 rfl h25
    have h23 := zs_aload_n (i := 0) C dX2_readNumber_23 rfl h24
    have h20 := zs_if_ne (tgt := 30) C dX2_readNumber_20 (by decide) h30 h23
    have h17 := zs_sI C dX2_readNumber_17 (m_X2_isDigit N) zw_257 ⟨Nat.le_of_ble_eq_true rfl, Nat.le_of_ble_eq_true rfl⟩ h20
    have h14 := zs_vI C dX2_readNumber_14 (m_X2_letterAt N) zw_246 ⟨Nat.le_of_ble_eq_true rfl, Nat.le_of_ble_eq_true rfl⟩ h17
    have h11 := zs_gI C dX2_readNumber_11 zf_2_2 zw_112 h14
    have h10 := zs_aload_n (i := 0) C dX2_readNumber_10 rfl h11
    have h9 := zs_aload_n (i := 0) C dX2_readNumber_9 rfl h10
    have h8 := zs_istore_n (i := 3) C dX2_readNumber_8 rfl h9
    have h5 := zs_gI C dX2_readNumber_5 zf_2_2 zw_112 h8
    have h4 := zs_aload_n (i := 0) C dX2_readNumber_4 rfl h5
    have h1 := zs_vV C dX2_readNumber_1 (m_X2_skipBlanks N) zw_242 ⟨Nat.le_of_ble_eq_true rfl, Nat.le_of_ble_eq_true rfl⟩ h4
    have h0 := zs_aload_n (i := 0) C dX2_readNumber_0 rfl h1
    exact h0
  case hG =>
    intro as μ r h
    obtain ⟨x0, x1, x2, rfl, h⟩ := g_X2_readNumber_i h
    exact ⟨Nat.le_of_ble_eq_true rfl, h⟩
theorem m_X2_readNumber (N : Nat) : zk_MV yX2_readNumber cX2_readNumber 5 (some .int) ({ frames := 2, cells := 0, slots := 0, locals := 41 } : Room) zq_I (g_X2_readNumber N) 2 2 := ⟨c_X2_readNumber N, zw_256, zw_254, zw_255, zw_29, rfl, rfl, by decide +kernel, by decide, ⟨TX2, 4, rfl⟩, fun as μ r h => by obtain ⟨x0, x1, x2, rfl, -⟩ := g_X2_readNumber_i h; exact ⟨_, _, rfl⟩⟩
-- LongestWed$Tape.takes(I)Z
def f_X2_takes (N : Nat) (x0 : Nat) (x1 : Int32) (μ : ZM) : Option (Int32 × ZM) :=
  (f_X2_skipBlanks N x0 μ).bind fun r1 =>
  (f_X2_letterAt N x0 (r1.1 x0 2) r1).bind fun r2 =>
  if r2.1 = x1 then
    let μ3 := zk_si r2.2 x0 2 ((r2.2.1 x0 2) + 1)
    zk_zr 1 μ3
  else
    zk_zr 0 r2.2
def g_X2_takes (N : Nat) (as : List ZV) (μ : ZM) : Option (Int32 × ZM) := match as with
  | [.inr (.inr (2, x0)), .inl x1] => f_X2_takes N x0 x1 μ
  | _ => none
theorem g_X2_takes_i {N : Nat} {as : List ZV} {μ : ZM} {r : Int32 × ZM} (h : g_X2_takes N as μ = some r) : ∃ (x0 : Nat) (x1 : Int32), as = [.inr (.inr (2, x0)), .inl x1] ∧ f_X2_takes N x0 x1 μ = some r := by
  unfold g_X2_takes at h
  split at h
  · exact ⟨_, _, rfl, h⟩
  · cases h
set_option maxRecDepth 100000 in
theorem c_X2_takes (N : Nat) : zk_C yX2_takes cX2_takes 2 (some .boolean) ({ frames := 2, cells := 0, slots := 0, locals := 41 } : Room) zq_I (g_X2_takes N) := by
  refine zk_met ?κ (by decide +kernel) ?hG ?body
  case body =>
    intro X E C
    have C : zk_X X E RX2 cX2_takes 2 (some .boolean) ({ frames := 2, cells := 0, slots := 0, locals := 41 } : Room) := C
    have h29 := zs_zret C dX2_takes_29
    have h28 := zs_iconst (v := 1) C dX2_takes_28 (by decide) h29
    have h25 := zs_pI C dX2_takes_25 zf_2_2 zw_112 rfl (by decide +kernel) h28
    have h24 := zs_iadd C dX2_takes_24 h25
    have h23 := zs_iconst (v := 1) C dX2_takes_23 (by decide) h24
    have h20 := zs_gI C dX2_takes_20 zf_2_2 zw_112 h23
    have h19 := zs_dup C dX2_takes_19 h20
    have h18 := zs_aload_n (i := 0) C dX2_takes_18 rfl h19
    have h17 := zs_zret C dX2_takes_17
    have h16 := zs_iconst (v := 0) C dX2_takes_16 (by decide) h17
    have h13 := zs_icmp_eq (tgt := 18) C dX2_takes_13 (by decide) h18 h16
    have h12 := zs_iload_n (i := 1) C dX2_takes_12 rfl h13
    have h9 := zs_vI C dX2_takes_9 (m_X2_letterAt N) zw_246 ⟨Nat.le_of_ble_eq_true rfl, Nat.le_of_ble_eq_true rfl⟩ h12
    have h6 := zs_gI C dX2_takes_6 zf_2_2 zw_112 h9
    have h5 := zs_aload_n (i := 0) C dX2_takes_5 rfl h6
    have h4 := zs_aload_n (i := 0) C dX2_takes_4 rfl h5
    have h1 := zs_vV C dX2_takes_1 (m_X2_skipBlanks N) zw_242 ⟨Nat.le_of_ble_eq_true rfl, Nat.le_of_ble_eq_true rfl⟩ h4
    have h0 := zs_aload_n (i := 0) C dX2_takes_0 rfl h1
    exact h0
  case hG =>
    intro as μ r h
    obtain ⟨x0, x1, rfl, h⟩ := g_X2_takes_i h
    exact ⟨Nat.le_of_ble_eq_true rfl, h⟩
theorem m_X2_takes (N : Nat) : zk_MV yX2_takes cX2_takes 2 (some .boolean) ({ frames := 2, cells := 0, slots := 0, locals := 41 } : Room) zq_I (g_X2_takes N) 1 2 := ⟨c_X2_takes N, zw_263, zw_261, zw_262, zw_29, rfl, rfl, by decide +kernel, by decide, ⟨TX2, 4, rfl⟩, fun as μ r h => by obtain ⟨x0, x1, rfl, -⟩ := g_X2_takes_i h; exact ⟨_, _, rfl⟩⟩
-- LongestWed$Tape.readCouple(LLongestWed$Town;)Z
def f_X2_readCouple_J105 (N : Nat) (x0 : Nat) (x1 : Nat) (x2 : Int32) (x3 : Int32) (x4 : Int32) (s0 : Int32) (μ : ZM) : Option (Int32 × ZM) :=
  if 0 ≤ s0 then
    (f_X2_takes N x0 120 μ).bind fun r1 =>
    let j135 : Int32 → Option (Int32 × ZM) := fun b2 =>
      (f_X3_settle N x1 x2 x3 x4 s0 b2 r1.2).bind fun r3 =>
      zk_zr 1 r3.2
    if ¬ r1.1 = 0 then
      j135 0
    else
      j135 1
  else
    zk_zr 0 μ
def k_X2_readCouple_J105 (N : Nat) : ZK (Int32 × ZM) := fun L st μ => match L, st with
  | [some (.inr (.inr (2, x0))), some (.inr (.inr (3, x1))), some (.inl x2), some (.inl x3), some (.inl x4), _], [.inl s0] => f_X2_readCouple_J105 N x0 x1 x2 x3 x4 s0 μ
  | _, _ => none
theorem k_X2_readCouple_J105_i {N : Nat} {L : ZL} {st : List ZV} {μ : ZM} {r : Int32 × ZM} (h : k_X2_readCouple_J105 N L st μ = some r) : ∃ (x0 : Nat) (x1 : Nat) (x2 : Int32) (x3 : Int32) (x4 : Int32) (s0 : Int32) (u5 : Option ZV), L = [some (.inr (.inr (2, x0))), some (.inr (.inr (3, x1))), some (.inl x2), some (.inl x3), some (.inl x4), u5] ∧ st = [.inl s0] ∧ f_X2_readCouple_J105 N x0 x1 x2 x3 x4 s0 μ = some r := by
  unfold k_X2_readCouple_J105 at h
  split at h
  · exact ⟨_, _, _, _, _, _, _, rfl, rfl, h⟩
  · cases h
set_option maxRecDepth 100000 in
theorem s_X2_readCouple_J105 (N : Nat) {X : ZX} {E : ZE} (C : zk_X X E RX2 cX2_readCouple 6 (some .boolean) ({ frames := 3, cells := 0, slots := 0, locals := 65 } : Room)) : zk_S X E 6 zq_I 105 (k_X2_readCouple_J105 N) := by
  have h140 := zs_zret C dX2_readCouple_140
  have h139 := zs_iconst (v := 1) C dX2_readCouple_139 (by decide) h140
  have h138 := zs_pop C dX2_readCouple_138 h139
  have h135 := zs_vI C dX2_readCouple_135 (m_X3_settle N) zw_264 ⟨Nat.le_of_ble_eq_true rfl, Nat.le_of_ble_eq_true rfl⟩ h138
  have h134 := zs_iconst (v := 0) C dX2_readCouple_134 (by decide) h135
  have h131 := zs_goto (tgt := 135) C dX2_readCouple_131 (by decide) h135
  have h130 := zs_iconst (v := 1) C dX2_readCouple_130 (by decide) h131
  have h127 := zs_if_ne (tgt := 134) C dX2_readCouple_127 (by decide) h134 h130
  have h124 := zs_vI C dX2_readCouple_124 (m_X2_takes N) zw_260 ⟨Nat.le_of_ble_eq_true rfl, Nat.le_of_ble_eq_true rfl⟩ h127
  have h122 := zs_bipush (v := 120) C dX2_readCouple_122 (by decide) h124
  have h121 := zs_aload_n (i := 0) C dX2_readCouple_121 rfl h122
  have h119 := zs_iload (i := 5) C dX2_readCouple_119 h121
  have h117 := zs_iload (i := 4) C dX2_readCouple_117 h119
  have h116 := zs_iload_n (i := 3) C dX2_readCouple_116 rfl h117
  have h115 := zs_iload_n (i := 2) C dX2_readCouple_115 rfl h116
  have h114 := zs_aload_n (i := 1) C dX2_readCouple_114 rfl h115
  have h113 := zs_zret C dX2_readCouple_113
  have h112 := zs_iconst (v := 0) C dX2_readCouple_112 (by decide) h113
  have h109 := zs_if_ge (tgt := 114) C dX2_readCouple_109 (by decide) h114 h112
  have h107 := zs_iload (i := 5) C dX2_readCouple_107 h109
  have h105 := zs_istore (i := 5) C dX2_readCouple_105 h107
  intro H locs ls L st μ r h hL hst hW hS
  obtain ⟨x0, x1, x2, x3, x4, s0, u5, rfl, rfl, h⟩ := k_X2_readCouple_J105_i h
  exact h105 H locs ls [some (.inr (.inr (2, x0))), some (.inr (.inr (3, x1))), some (.inl x2), some (.inl x3), some (.inl x4), none] [.inl s0] μ r h (hL.less ⟨rfl, rfl, rfl, rfl, rfl, trivial⟩) hst hW hS
def f_X2_readCouple_J76 (N : Nat) (x0 : Nat) (x1 : Nat) (x2 : Int32) (x3 : Int32) (s0 : Int32) (μ : ZM) : Option (Int32 × ZM) :=
  if 0 ≤ s0 then
    (f_X2_takes N x0 126 μ).bind fun r1 =>
    if r1.1 = 0 then
      f_X2_readCouple_J105 N x0 x1 x2 x3 s0 0 r1.2
    else
      (f_X2_readNumber N x0 0 19 r1.2).bind fun r2 =>
      f_X2_readCouple_J105 N x0 x1 x2 x3 s0 r2.1 r2.2
  else
    zk_zr 0 μ
def k_X2_readCouple_J76 (N : Nat) : ZK (Int32 × ZM) := fun L st μ => match L, st with
  | [some (.inr (.inr (2, x0))), some (.inr (.inr (3, x1))), some (.inl x2), some (.inl x3), _, _], [.inl s0] => f_X2_readCouple_J76 N x0 x1 x2 x3 s0 μ
  | _, _ => none
theorem k_X2_readCouple_J76_i {N : Nat} {L : ZL} {st : List ZV} {μ : ZM} {r : Int32 × ZM} (h : k_X2_readCouple_J76 N L st μ = some r) : ∃ (x0 : Nat) (x1 : Nat) (x2 : Int32) (x3 : Int32) (s0 : Int32) (u4 : Option ZV) (u5 : Option ZV), L = [some (.inr (.inr (2, x0))), some (.inr (.inr (3, x1))), some (.inl x2), some (.inl x3), u4, u5] ∧ st = [.inl s0] ∧ f_X2_readCouple_J76 N x0 x1 x2 x3 s0 μ = some r := by
  unfold k_X2_readCouple_J76 at h
  split at h
  · exact ⟨_, _, _, _, _, _, _, rfl, rfl, h⟩
  · cases h
set_option maxRecDepth 100000 in
theorem s_X2_readCouple_J76 (N : Nat) {X : ZX} {E : ZE} (C : zk_X X E RX2 cX2_readCouple 6 (some .boolean) ({ frames := 3, cells := 0, slots := 0, locals := 65 } : Room)) : zk_S X E 6 zq_I 76 (k_X2_readCouple_J76 N) := by
  have e105 := s_X2_readCouple_J105 N C
  have h104 := zs_iconst (v := 0) C dX2_readCouple_104 (by decide) e105
  have h101 := zs_goto (tgt := 105) C dX2_readCouple_101 (by decide) e105
  have h98 := zs_vI C dX2_readCouple_98 (m_X2_readNumber N) zw_253 ⟨Nat.le_of_ble_eq_true rfl, Nat.le_of_ble_eq_true rfl⟩ h101
  have h96 := zs_bipush (v := 19) C dX2_readCouple_96 (by decide) h98
  have h95 := zs_iconst (v := 0) C dX2_readCouple_95 (by decide) h96
  have h94 := zs_aload_n (i := 0) C dX2_readCouple_94 rfl h95
  have h91 := zs_if_eq (tgt := 104) C dX2_readCouple_91 (by decide) h104 h94
  have h88 := zs_vI C dX2_readCouple_88 (m_X2_takes N) zw_260 ⟨Nat.le_of_ble_eq_true rfl, Nat.le_of_ble_eq_true rfl⟩ h91
  have h86 := zs_bipush (v := 126) C dX2_readCouple_86 (by decide) h88
  have h85 := zs_aload_n (i := 0) C dX2_readCouple_85 rfl h86
  have h84 := zs_zret C dX2_readCouple_84
  have h83 := zs_iconst (v := 0) C dX2_readCouple_83 (by decide) h84
  have h80 := zs_if_ge (tgt := 85) C dX2_readCouple_80 (by decide) h85 h83
  have h78 := zs_iload (i := 4) C dX2_readCouple_78 h80
  have h76 := zs_istore (i := 4) C dX2_readCouple_76 h78
  intro H locs ls L st μ r h hL hst hW hS
  obtain ⟨x0, x1, x2, x3, s0, u4, u5, rfl, rfl, h⟩ := k_X2_readCouple_J76_i h
  exact h76 H locs ls [some (.inr (.inr (2, x0))), some (.inr (.inr (3, x1))), some (.inl x2), some (.inl x3), none, none] [.inl s0] μ r h (hL.less ⟨rfl, rfl, rfl, rfl, trivial⟩) hst hW hS
def f_X2_readCouple (N : Nat) (x0 : Nat) (x1 : Nat) (μ : ZM) : Option (Int32 × ZM) :=
  (f_X2_skipBlanks N x0 μ).bind fun r1 =>
  (f_X2_letterAt N x0 (r1.1 x0 2) r1).bind fun r2 =>
  (f_X2_kindOf N r2.1 r2.2).bind fun r3 =>
  if 0 ≤ r3.1 then
    let μ4 := zk_si r3.2 x0 2 ((r3.2.1 x0 2) + 1)
    (f_X2_readNumber N x0 0 80 μ4).bind fun r5 =>
    if 0 ≤ r5.1 then
      (f_X2_takes N x0 64 r5.2).bind fun r6 =>
      if r6.1 = 0 then
        f_X2_readCouple_J76 N x0 x1 r3.1 r5.1 40 r6.2
      else
        (f_X2_readNumber N x0 20 99 r6.2).bind fun r7 =>
        f_X2_readCouple_J76 N x0 x1 r3.1 r5.1 r7.1 r7.2
    else
      zk_zr 0 r5.2
  else
    let μ8 := zk_si r3.2 x0 3 (r3.2.1 x0 2)
    zk_zr 0 μ8
def g_X2_readCouple (N : Nat) (as : List ZV) (μ : ZM) : Option (Int32 × ZM) := match as with
  | [.inr (.inr (2, x0)), .inr (.inr (3, x1))] => f_X2_readCouple N x0 x1 μ
  | _ => none
theorem g_X2_readCouple_i {N : Nat} {as : List ZV} {μ : ZM} {r : Int32 × ZM} (h : g_X2_readCouple N as μ = some r) : ∃ (x0 : Nat) (x1 : Nat), as = [.inr (.inr (2, x0)), .inr (.inr (3, x1))] ∧ f_X2_readCouple N x0 x1 μ = some r := by
  unfold g_X2_readCouple at h
  split at h
  · exact ⟨_, _, rfl, h⟩
  · cases h
set_option maxRecDepth 100000 in
theorem c_X2_readCouple (N : Nat) : zk_C yX2_readCouple cX2_readCouple 6 (some .boolean) ({ frames := 3, cells := 0, slots := 0, locals := 65 } : Room) zq_I (g_X2_readCouple N) := by
  refine zk_met ?κ (by decide +kernel) ?hG ?body
  case body =>
    intro X E C
    have C : zk_X X E RX2 cX2_readCouple 6 (some .boolean) ({ frames := 3, cells := 0, slots := 0, locals := 65 } : Room) := C
    have e76 := s_X2_readCouple_J76 N C
    have h74 := zs_bipush (v := 40) C dX2_readCouple_74 (by decide) e76
    have h71 := zs_goto (tgt := 76) C dX2_readCouple_71 (by decide) e76
    have h68 := zs_vI C dX2_readCouple_68 (m_X2_readNumber N) zw_253 ⟨Nat.le_of_ble_eq_true rfl, Nat.le_of_ble_eq_true rfl⟩ h71
    have h66 := zs_bipush (v := 99) C dX2_readCouple_66 (by decide) h68
    have h64 := zs_bipush (v := 20) C dX2_readCouple_64 (by decide) h66
    have h63 := zs_aload_n (i := 0) C dX2_readCouple_63 rfl h64
    have h60 := zs_if_eq (tgt := 74) C dX2_readCouple_60 (by decide) h74 h63
    have h57 := zs_vI C dX2_readCouple_57 (m_X2_takes N) zw_260 ⟨Nat.le_of_ble_eq_true rfl, Nat.le_of_ble_eq_true rfl⟩ h60
    have h55 := zs_bipush (v := 64) C dX2_readCouple_55 (by decide) h57
    have h54 := zs_aload_n (i := 0) C dX2_readCouple_54 rfl h55
    have h53 := zs_zret C dX2_readCouple_53
    have h52 := zs_iconst (v := 0) C dX2_readCouple_52 (by decide) h53
    have h49 := zs_if_ge (tgt := 54) C dX2_readCouple_49 (by decide) h54 h52
    have h48 := zs_iload_n (i := 3) C dX2_readCouple_48 rfl h49
    have h47 := zs_istore_n (i := 3) C dX2_readCouple_47 rfl h48
    have h44 := zs_vI C dX2_readCouple_44 (m_X2_readNumber N) zw_253 ⟨Nat.le_of_ble_eq_true rfl, Nat.le_of_ble_eq_true rfl⟩ h47
    have h42 := zs_bipush (v := 80) C dX2_readCouple_42 (by decide) h44
    have h41 := zs_iconst (v := 0) C dX2_readCouple_41 (by decide) h42
    have h40 := zs_aload_n (i := 0) C dX2_readCouple_40 rfl h41
    have h37 := zs_pI C dX2_readCouple_37 zf_2_2 zw_112 rfl (by decide +kernel) h40
    have h36 := zs_iadd C dX2_readCouple_36 h37
    have h35 := zs_iconst (v := 1) C dX2_readCouple_35 (by decide) h36
    have h32 := zs_gI C dX2_readCouple_32 zf_2_2 zw_112 h35
    have h31 := zs_dup C dX2_readCouple_31 h32
    have h30 := zs_aload_n (i := 0) C dX2_readCouple_30 rfl h31
    have h29 := zs_zret C dX2_readCouple_29
    have h28 := zs_iconst (v := 0) C dX2_readCouple_28 (by decide) h29
    have h25 := zs_pI C dX2_readCouple_25 zf_2_3 zw_113 rfl (by decide +kernel) h28
    have h22 := zs_gI C dX2_readCouple_22 zf_2_2 zw_112 h25
    have h21 := zs_aload_n (i := 0) C dX2_readCouple_21 rfl h22
    have h20 := zs_aload_n (i := 0) C dX2_readCouple_20 rfl h21
    have h17 := zs_if_ge (tgt := 30) C dX2_readCouple_17 (by decide) h30 h20
    have h16 := zs_iload_n (i := 2) C dX2_readCouple_16 rfl h17
    have h15 := zs_istore_n (i := 2) C dX2_readCouple_15 rfl h16
    have h12 := zs_sI C dX2_readCouple_12 (m_X2_kindOf N) zw_250 ⟨Nat.le_of_ble_eq_true rfl, Nat.le_of_ble_eq_true rfl⟩ h15
    have h9 := zs_vI C dX2_readCouple_9 (m_X2_letterAt N) zw_246 ⟨Nat.le_of_ble_eq_true rfl, Nat.le_of_ble_eq_true rfl⟩ h12
    have h6 := zs_gI C dX2_readCouple_6 zf_2_2 zw_112 h9
    have h5 := zs_aload_n (i := 0) C dX2_readCouple_5 rfl h6
    have h4 := zs_aload_n (i := 0) C dX2_readCouple_4 rfl h5
    have h1 := zs_vV C dX2_readCouple_1 (m_X2_skipBlanks N) zw_242 ⟨Nat.le_of_ble_eq_true rfl, Nat.le_of_ble_eq_true rfl⟩ h4
    have h0 := zs_aload_n (i := 0) C dX2_readCouple_0 rfl h1
    exact h0
  case hG =>
    intro as μ r h
    obtain ⟨x0, x1, rfl, h⟩ := g_X2_readCouple_i h
    exact ⟨Nat.le_of_ble_eq_true rfl, h⟩
theorem m_X2_readCouple (N : Nat) : zk_MV yX2_readCouple cX2_readCouple 6 (some .boolean) ({ frames := 3, cells := 0, slots := 0, locals := 65 } : Room) zq_I (g_X2_readCouple N) 1 2 := ⟨c_X2_readCouple N, zw_241, zw_239, zw_240, zw_29, rfl, rfl, by decide +kernel, by decide, ⟨TX2, 4, rfl⟩, fun as μ r h => by obtain ⟨x0, x1, rfl, -⟩ := g_X2_readCouple_i h; exact ⟨_, _, rfl⟩⟩
-- LongestWed$Tape.readTown(LLongestWed$Town;)Z
def f_X2_readTown_L7 (N : Nat) : Nat → Nat → Nat → Int32 → ZM → Option (Int32 × ZM)
  | 0, _, _, _, _ => none
  | n + 1, x0, x1, x2, μ =>
    if (7 : Int32) < x2 then
      zk_zr 0 μ
    else
      (f_X2_readCouple N x0 x1 μ).bind fun r1 =>
      if ¬ r1.1 = 0 then
        if x2 = (7 : Int32) then
          (f_X2_isAtEnd N x0 r1.2).bind fun r2 =>
          zk_zr r2.1 r2.2
        else
          (f_X2_takes N x0 44 r1.2).bind fun r3 =>
          if ¬ r3.1 = 0 then
            f_X2_readTown_L7 N n x0 x1 (x2 + 1) r3.2
          else
            (f_X2_isAtEnd N x0 r3.2).bind fun r4 =>
            zk_zr r4.1 r4.2
      else
        zk_zr 0 r1.2
def k_X2_readTown_L7 (N n : Nat) : ZK (Int32 × ZM) := fun L st μ => match L, st with
  | [some (.inr (.inr (2, x0))), some (.inr (.inr (3, x1))), some (.inl x2)], [] => f_X2_readTown_L7 N n x0 x1 x2 μ
  | _, _ => none
theorem k_X2_readTown_L7_i {N : Nat} {n : Nat} {L : ZL} {st : List ZV} {μ : ZM} {r : Int32 × ZM} (h : k_X2_readTown_L7 N n L st μ = some r) : ∃ (x0 : Nat) (x1 : Nat) (x2 : Int32), L = [some (.inr (.inr (2, x0))), some (.inr (.inr (3, x1))), some (.inl x2)] ∧ st = [] ∧ f_X2_readTown_L7 N n x0 x1 x2 μ = some r := by
  unfold k_X2_readTown_L7 at h
  split at h
  · exact ⟨_, _, _, rfl, rfl, h⟩
  · cases h
set_option maxRecDepth 100000 in
theorem s_X2_readTown_L7 (N : Nat) {X : ZX} {E : ZE} (C : zk_X X E RX2 cX2_readTown 3 (some .boolean) ({ frames := 4, cells := 0, slots := 0, locals := 90 } : Room)) : ∀ n, zk_S X E 3 zq_I 7 (k_X2_readTown_L7 N n) := by
  intro n
  induction n with
  | zero =>
    intro H locs ls L st μ r h hL hst hW hS
    obtain ⟨x0, x1, x2, rfl, rfl, h⟩ := k_X2_readTown_L7_i h
    exact nomatch (show none = some r from h)
  | succ n ih =>
    have h50 := zs_zret C dX2_readTown_50
    have h49 := zs_iconst (v := 0) C dX2_readTown_49 (by decide) h50
    have h46 := zs_goto (tgt := 7) C dX2_readTown_46 (by decide) ih
    have h43 := zs_iinc (n := 1) C dX2_readTown_43 (by decide) h46
    have h42 := zs_zret C dX2_readTown_42
    have h39 := zs_vI C dX2_readTown_39 (m_X2_isAtEnd N) zw_265 ⟨Nat.le_of_ble_eq_true rfl, Nat.le_of_ble_eq_true rfl⟩ h42
    have h38 := zs_aload_n (i := 0) C dX2_readTown_38 rfl h39
    have h35 := zs_if_ne (tgt := 43) C dX2_readTown_35 (by decide) h43 h38
    have h32 := zs_vI C dX2_readTown_32 (m_X2_takes N) zw_260 ⟨Nat.le_of_ble_eq_true rfl, Nat.le_of_ble_eq_true rfl⟩ h35
    have h30 := zs_bipush (v := 44) C dX2_readTown_30 (by decide) h32
    have h29 := zs_aload_n (i := 0) C dX2_readTown_29 rfl h30
    have h26 := zs_icmp_eq (tgt := 38) C dX2_readTown_26 (by decide) h38 h29
    have h24 := zs_bipush (v := 7) C dX2_readTown_24 (by decide) h26
    have h23 := zs_iload_n (i := 2) C dX2_readTown_23 rfl h24
    have h22 := zs_zret C dX2_readTown_22
    have h21 := zs_iconst (v := 0) C dX2_readTown_21 (by decide) h22
    have h18 := zs_if_ne (tgt := 23) C dX2_readTown_18 (by decide) h23 h21
    have h15 := zs_vI C dX2_readTown_15 (m_X2_readCouple N) zw_238 ⟨Nat.le_of_ble_eq_true rfl, Nat.le_of_ble_eq_true rfl⟩ h18
    have h14 := zs_aload_n (i := 1) C dX2_readTown_14 rfl h15
    have h13 := zs_aload_n (i := 0) C dX2_readTown_13 rfl h14
    have h10 := zs_icmp_gt (tgt := 49) C dX2_readTown_10 (by decide) h49 h13
    have h8 := zs_bipush (v := 7) C dX2_readTown_8 (by decide) h10
    have h7 := zs_iload_n (i := 2) C dX2_readTown_7 rfl h8
    intro H locs ls L st μ r h hL hst hW hS
    obtain ⟨x0, x1, x2, rfl, rfl, h⟩ := k_X2_readTown_L7_i h
    exact h7 H locs ls [some (.inr (.inr (2, x0))), some (.inr (.inr (3, x1))), some (.inl x2)] [] μ r h (hL.less ⟨rfl, rfl, rfl, trivial⟩) hst hW hS
def f_X2_readTown (N : Nat) (x0 : Nat) (x1 : Nat) (μ : ZM) : Option (Int32 × ZM) :=
  let μ1 := zk_si μ x0 2 0
  f_X2_readTown_L7 N N x0 x1 1 μ1
def g_X2_readTown (N : Nat) (as : List ZV) (μ : ZM) : Option (Int32 × ZM) := match as with
  | [.inr (.inr (2, x0)), .inr (.inr (3, x1))] => f_X2_readTown N x0 x1 μ
  | _ => none
theorem g_X2_readTown_i {N : Nat} {as : List ZV} {μ : ZM} {r : Int32 × ZM} (h : g_X2_readTown N as μ = some r) : ∃ (x0 : Nat) (x1 : Nat), as = [.inr (.inr (2, x0)), .inr (.inr (3, x1))] ∧ f_X2_readTown N x0 x1 μ = some r := by
  unfold g_X2_readTown at h
  split at h
  · exact ⟨_, _, rfl, h⟩
  · cases h
set_option maxRecDepth 100000 in
theorem c_X2_readTown (N : Nat) : zk_C yX2_readTown cX2_readTown 3 (some .boolean) ({ frames := 4, cells := 0, slots := 0, locals := 90 } : Room) zq_I (g_X2_readTown N) := by
  refine zk_met ?κ (by decide +kernel) ?hG ?body
  case body =>
    intro X E C
    have C : zk_X X E RX2 cX2_readTown 3 (some .boolean) ({ frames := 4, cells := 0, slots := 0, locals := 90 } : Room) := C
    have e7 := s_X2_readTown_L7 N C N
    have h6 := zs_istore_n (i := 2) C dX2_readTown_6 rfl e7
    have h5 := zs_iconst (v := 1) C dX2_readTown_5 (by decide) h6
    have h2 := zs_pI C dX2_readTown_2 zf_2_2 zw_112 rfl (by decide +kernel) h5
    have h1 := zs_iconst (v := 0) C dX2_readTown_1 (by decide) h2
    have h0 := zs_aload_n (i := 0) C dX2_readTown_0 rfl h1
    exact h0
  case hG =>
    intro as μ r h
    obtain ⟨x0, x1, rfl, h⟩ := g_X2_readTown_i h
    exact ⟨Nat.le_of_ble_eq_true rfl, h⟩
theorem m_X2_readTown (N : Nat) : zk_MV yX2_readTown cX2_readTown 3 (some .boolean) ({ frames := 4, cells := 0, slots := 0, locals := 90 } : Room) zq_I (g_X2_readTown N) 1 2 := ⟨c_X2_readTown N, zw_237, zw_235, zw_236, zw_29, rfl, rfl, by decide +kernel, by decide, ⟨TX2, 4, rfl⟩, fun as μ r h => by obtain ⟨x0, x1, rfl, -⟩ := g_X2_readTown_i h; exact ⟨_, _, rfl⟩⟩
