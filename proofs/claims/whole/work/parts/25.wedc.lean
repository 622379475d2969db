-- LongestWed.restore()I
def f_X4_restore (N : Nat) (x0 : Nat) (μ : ZM) : Option (Int32 × ZM) :=
  if ¬ (μ.1 x0 7) = 0 then
    (f_X3_become N (x0 + 1) (x0 + 48) μ).bind fun r1 =>
    (f_X0_become N (x0 + 6) (x0 + 53) r1).bind fun r2 =>
    some (1, r2)
  else
    some ((-4), μ)
def g_X4_restore (N : Nat) (as : List ZV) (μ : ZM) : Option (Int32 × ZM) := match as with
  | [.inr (.inr (4, x0))] => f_X4_restore N x0 μ
  | _ => none
theorem g_X4_restore_i {N : Nat} {as : List ZV} {μ : ZM} {r : Int32 × ZM} (h : g_X4_restore N as μ = some r) : ∃ (x0 : Nat), as = [.inr (.inr (4, x0))] ∧ f_X4_restore N x0 μ = some r := by
  unfold g_X4_restore at h
  split at h
  · exact ⟨_, rfl, h⟩
  · cases h
set_option maxRecDepth 100000 in
theorem c_X4_restore (N : Nat) : zk_C yX4_restore cX4_restore 1 (some .int) ({ frames := 3, cells := 0, slots := 0, locals := 69 } : Room) zq_I (g_X4_restore N) := by
  refine zk_met ?κ (by decide +kernel) ?hG ?body
  case body =>
    intro X E C
    have C : zk_X X E RX4 cX4_restore 1 (some .int) ({ frames := 3, cells := 0, slots := 0, locals := 69 } : Room) := C
    have h33 := zs_iret C dX4_restore_33
    have h32 := zs_iconst (v := 1) C dX4_restore_32 (by decide) h33
    have h29 := zs_vV C dX4_restore_29 (m_X0_become N) zw_453 ⟨Nat.le_of_ble_eq_true rfl, Nat.le_of_ble_eq_true rfl⟩ h32
    have h26 := zs_gR C dX4_restore_26 zf_4_3 zw_148 h29
    have h25 := zs_aload_n (i := 0) C dX4_restore_25 rfl h26
    have h22 := zs_gR C dX4_restore_22 zf_4_1 zw_146 h25
    have h21 := zs_aload_n (i := 0) C dX4_restore_21 rfl h22
    have h18 := zs_vV C dX4_restore_18 (m_X3_become N) zw_269 ⟨Nat.le_of_ble_eq_true rfl, Nat.le_of_ble_eq_true rfl⟩ h21
    have h15 := zs_gR C dX4_restore_15 zf_4_2 zw_147 h18
    have h14 := zs_aload_n (i := 0) C dX4_restore_14 rfl h15
    have h11 := zs_gR C dX4_restore_11 zf_4_0 zw_145 h14
    have h10 := zs_aload_n (i := 0) C dX4_restore_10 rfl h11
    have h9 := zs_iret C dX4_restore_9
    have h7 := zs_bipush (v := (-4)) C dX4_restore_7 (by decide) h9
    have h4 := zs_if_ne (tgt := 10) C dX4_restore_4 (by decide) h10 h7
    have h1 := zs_gI C dX4_restore_1 zf_4_7 zw_152 h4
    have h0 := zs_aload_n (i := 0) C dX4_restore_0 rfl h1
    exact h0
  case hG =>
    intro as μ r h
    obtain ⟨x0, rfl, h⟩ := g_X4_restore_i h
    exact ⟨Nat.le_of_ble_eq_true rfl, h⟩
theorem m_X4_restore (N : Nat) : zk_MV yX4_restore cX4_restore 1 (some .int) ({ frames := 3, cells := 0, slots := 0, locals := 69 } : Room) zq_I (g_X4_restore N) 0 4 := ⟨c_X4_restore N, zw_460, zw_458, zw_459, zw_26, rfl, rfl, by decide +kernel, by decide, ⟨TX4, 8, rfl⟩, fun as μ r h => by obtain ⟨x0, rfl, -⟩ := g_X4_restore_i h; exact ⟨_, _, rfl⟩⟩
-- LongestWed.trialTells(ILLongestWed$Sheet;II)Z
def f_X4_trialTells_L3 (N : Nat) : Nat → Nat → Int32 → Nat → Int32 → Int32 → Int32 → ZM → Option (Int32 × ZM)
  | 0, _, _, _, _, _, _, _ => none
  | n + 1, x0, x1, x2, x3, x4, x5, μ =>
    if x4 ≤ x5 then
      zk_zr 1 μ
    else
      (f_X3_passYear N (x0 + 98) μ).bind fun r1 =>
      if zk_o (x3 + x5) 24 = true then none else
      if zk_o x1 7 = true then none else
      if (lg_cmp (r1.2 (x2 + 1) (Int32.toNatClampNeg (x3 + x5))) (Int32.toInt64 (r1.1 ((x0 + 98) + 4) (Int32.toNatClampNeg x1)))) = 0 then
        f_X4_trialTells_L3 N n x0 x1 x2 x3 x4 (x5 + 1) r1
      else
        zk_zr 0 r1
def k_X4_trialTells_L3 (N n : Nat) : ZK (Int32 × ZM) := fun L st μ => match L, st with
  | [some (.inr (.inr (4, x0))), some (.inl x1), some (.inr (.inr (1, x2))), some (.inl x3), some (.inl x4), some (.inl x5)], [] => f_X4_trialTells_L3 N n x0 x1 x2 x3 x4 x5 μ
  | _, _ => none
theorem k_X4_trialTells_L3_i {N : Nat} {n : Nat} {L : ZL} {st : List ZV} {μ : ZM} {r : Int32 × ZM} (h : k_X4_trialTells_L3 N n L st μ = some r) : ∃ (x0 : Nat) (x1 : Int32) (x2 : Nat) (x3 : Int32) (x4 : Int32) (x5 : Int32), L = [some (.inr (.inr (4, x0))), some (.inl x1), some (.inr (.inr (1, x2))), some (.inl x3), some (.inl x4), some (.inl x5)] ∧ st = [] ∧ f_X4_trialTells_L3 N n x0 x1 x2 x3 x4 x5 μ = some r := by
  unfold k_X4_trialTells_L3 at h
  split at h
  · exact ⟨_, _, _, _, _, _, rfl, rfl, h⟩
  · cases h
set_option maxRecDepth 100000 in
theorem s_X4_trialTells_L3 (N : Nat) {X : ZX} {E : ZE} (C : zk_X X E RX4 cX4_trialTells 6 (some .boolean) ({ frames := 3, cells := 0, slots := 0, locals := 68 } : Room)) : ∀ n, zk_S X E 6 zq_I 3 (k_X4_trialTells_L3 N n) := by
  intro n
  induction n with
  | zero =>
    intro H locs ls L st μ r h hL hst hW hS
    obtain ⟨x0, x1, x2, x3, x4, x5, rfl, rfl, h⟩ := k_X4_trialTells_L3_i h
    exact nomatch (show none = some r from h)
  | succ n ih =>
    have h49 := zs_zret C dX4_trialTells_49
    have h48 := zs_iconst (v := 1) C dX4_trialTells_48 (by decide) h49
    have h45 := zs_goto (tgt := 3) C dX4_trialTells_45 (by decide) ih
    have h42 := zs_iinc (n := 1) C dX4_trialTells_42 (by decide) h45
    have h41 := zs_zret C dX4_trialTells_41
    have h40 := zs_iconst (v := 0) C dX4_trialTells_40 (by decide) h41
    have h37 := zs_if_eq (tgt := 42) C dX4_trialTells_37 (by decide) h42 h40
    have h36 := zs_lcmp C dX4_trialTells_36 h37
    have h35 := zs_i2l C dX4_trialTells_35 h36
    have h34 := zs_iald (n := 7) C dX4_trialTells_34 (by decide) h35
    have h33 := zs_iload_n (i := 1) C dX4_trialTells_33 rfl h34
    have h30 := zs_gR C dX4_trialTells_30 zf_3_3 zw_56 h33
    have h27 := zs_gR C dX4_trialTells_27 zf_4_6 zw_151 h30
    have h26 := zs_aload_n (i := 0) C dX4_trialTells_26 rfl h27
    have h25 := zs_lald (n := 24) C dX4_trialTells_25 (by decide) h26
    have h24 := zs_iadd C dX4_trialTells_24 h25
    have h22 := zs_iload (i := 5) C dX4_trialTells_22 h24
    have h21 := zs_iload_n (i := 3) C dX4_trialTells_21 rfl h22
    have h18 := zs_gR C dX4_trialTells_18 zf_1_0 zw_132 h21
    have h17 := zs_aload_n (i := 2) C dX4_trialTells_17 rfl h18
    have h14 := zs_vV C dX4_trialTells_14 (m_X3_passYear N) zw_298 ⟨Nat.le_of_ble_eq_true rfl, Nat.le_of_ble_eq_true rfl⟩ h17
    have h11 := zs_gR C dX4_trialTells_11 zf_4_6 zw_151 h14
    have h10 := zs_aload_n (i := 0) C dX4_trialTells_10 rfl h11
    have h7 := zs_icmp_ge (tgt := 48) C dX4_trialTells_7 (by decide) h48 h10
    have h5 := zs_iload (i := 4) C dX4_trialTells_5 h7
    have h3 := zs_iload (i := 5) C dX4_trialTells_3 h5
    intro H locs ls L st μ r h hL hst hW hS
    obtain ⟨x0, x1, x2, x3, x4, x5, rfl, rfl, h⟩ := k_X4_trialTells_L3_i h
    exact h3 H locs ls [some (.inr (.inr (4, x0))), some (.inl x1), some (.inr (.inr (1, x2))), some (.inl x3), some (.inl x4), some (.inl x5)] [] μ r h (hL.less ⟨rfl, rfl, rfl, rfl, rfl, rfl, trivial⟩) hst hW hS
def f_X4_trialTells (N : Nat) (x0 : Nat) (x1 : Int32) (x2 : Nat) (x3 : Int32) (x4 : Int32) (μ : ZM) : Option (Int32 × ZM) :=
  f_X4_trialTells_L3 N N x0 x1 x2 x3 x4 0 μ
def g_X4_trialTells (N : Nat) (as : List ZV) (μ : ZM) : Option (Int32 × ZM) := match as with
  | [.inr (.inr (4, x0)), .inl x1, .inr (.inr (1, x2)), .inl x3, .inl x4] => f_X4_trialTells N x0 x1 x2 x3 x4 μ
  | _ => none
theorem g_X4_trialTells_i {N : Nat} {as : List ZV} {μ : ZM} {r : Int32 × ZM} (h : g_X4_trialTells N as μ = some r) : ∃ (x0 : Nat) (x1 : Int32) (x2 : Nat) (x3 : Int32) (x4 : Int32), as = [.inr (.inr (4, x0)), .inl x1, .inr (.inr (1, x2)), .inl x3, .inl x4] ∧ f_X4_trialTells N x0 x1 x2 x3 x4 μ = some r := by
  unfold g_X4_trialTells at h
  split at h
  · exact ⟨_, _, _, _, _, rfl, h⟩
  · cases h
set_option maxRecDepth 100000 in
theorem c_X4_trialTells (N : Nat) : zk_C yX4_trialTells cX4_trialTells 6 (some .boolean) ({ frames := 3, cells := 0, slots := 0, locals := 68 } : Room) zq_I (g_X4_trialTells N) := by
  refine zk_met ?κ (by decide +kernel) ?hG ?body
  case body =>
    intro X E C
    have C : zk_X X E RX4 cX4_trialTells 6 (some .boolean) ({ frames := 3, cells := 0, slots := 0, locals := 68 } : Room) := C
    have e3 := s_X4_trialTells_L3 N C N
    have h1 := zs_istore (i := 5) C dX4_trialTells_1 e3
    have h0 := zs_iconst (v := 0) C dX4_trialTells_0 (by decide) h1
    exact h0
  case hG =>
    intro as μ r h
    obtain ⟨x0, x1, x2, x3, x4, rfl, h⟩ := g_X4_trialTells_i h
    exact ⟨Nat.le_of_ble_eq_true rfl, h⟩
theorem m_X4_trialTells (N : Nat) : zk_MV yX4_trialTells cX4_trialTells 6 (some .boolean) ({ frames := 3, cells := 0, slots := 0, locals := 68 } : Room) zq_I (g_X4_trialTells N) 4 4 := ⟨c_X4_trialTells N, zw_486, zw_485, zw_8, zw_26, rfl, rfl, by decide +kernel, by decide, ⟨TX4, 8, rfl⟩, fun as μ r h => by obtain ⟨x0, x1, x2, x3, x4, rfl, -⟩ := g_X4_trialTells_i h; exact ⟨_, _, rfl⟩⟩
-- LongestWed.wedTells(IILLongestWed$Sheet;II)Z
def f_X4_wedTells (N : Nat) (x0 : Nat) (x1 : Int32) (x2 : Int32) (x3 : Nat) (x4 : Int32) (x5 : Int32) (μ : ZM) : Option (Int32 × ZM) :=
  (f_X3_become N (x0 + 98) (x0 + 1) μ).bind fun r1 =>
  if zk_o x1 7 = true then none else
  let μ2 := zk_si r1 ((x0 + 98) + 2) (Int32.toNatClampNeg x1) x2
  (f_X4_trialTells N x0 x1 x3 x4 x5 μ2).bind fun r3 =>
  zk_zr r3.1 r3.2
def g_X4_wedTells (N : Nat) (as : List ZV) (μ : ZM) : Option (Int32 × ZM) := match as with
  | [.inr (.inr (4, x0)), .inl x1, .inl x2, .inr (.inr (1, x3)), .inl x4, .inl x5] => f_X4_wedTells N x0 x1 x2 x3 x4 x5 μ
  | _ => none
theorem g_X4_wedTells_i {N : Nat} {as : List ZV} {μ : ZM} {r : Int32 × ZM} (h : g_X4_wedTells N as μ = some r) : ∃ (x0 : Nat) (x1 : Int32) (x2 : Int32) (x3 : Nat) (x4 : Int32) (x5 : Int32), as = [.inr (.inr (4, x0)), .inl x1, .inl x2, .inr (.inr (1, x3)), .inl x4, .inl x5] ∧ f_X4_wedTells N x0 x1 x2 x3 x4 x5 μ = some r := by
  unfold g_X4_wedTells at h
  split at h
  · exact ⟨_, _, _, _, _, _, rfl, h⟩
  · cases h
set_option maxRecDepth 100000 in
theorem c_X4_wedTells (N : Nat) : zk_C yX4_wedTells cX4_wedTells 6 (some .boolean) ({ frames := 4, cells := 0, slots := 0, locals := 93 } : Room) zq_I (g_X4_wedTells N) := by
  refine zk_met ?κ (by decide +kernel) ?hG ?body
  case body =>
    intro X E C
    have C : zk_X X E RX4 cX4_wedTells 6 (some .boolean) ({ frames := 4, cells := 0, slots := 0, locals := 93 } : Room) := C
    have h31 := zs_zret C dX4_wedTells_31
    have h28 := zs_vI C dX4_wedTells_28 (m_X4_trialTells N) zw_483 ⟨Nat.le_of_ble_eq_true rfl, Nat.le_of_ble_eq_true rfl⟩ h31
    have h26 := zs_iload (i := 5) C dX4_wedTells_26 h28
    have h24 := zs_iload (i := 4) C dX4_wedTells_24 h26
    have h23 := zs_aload_n (i := 3) C dX4_wedTells_23 rfl h24
    have h22 := zs_iload_n (i := 1) C dX4_wedTells_22 rfl h23
    have h21 := zs_aload_n (i := 0) C dX4_wedTells_21 rfl h22
    have h20 := zs_iast (n := 7) C dX4_wedTells_20 (by decide) h21
    have h19 := zs_iload_n (i := 2) C dX4_wedTells_19 rfl h20
    have h18 := zs_iload_n (i := 1) C dX4_wedTells_18 rfl h19
    have h15 := zs_gR C dX4_wedTells_15 zf_3_1 zw_52 h18
    have h12 := zs_gR C dX4_wedTells_12 zf_4_6 zw_151 h15
    have h11 := zs_aload_n (i := 0) C dX4_wedTells_11 rfl h12
    have h8 := zs_vV C dX4_wedTells_8 (m_X3_become N) zw_269 ⟨Nat.le_of_ble_eq_true rfl, Nat.le_of_ble_eq_true rfl⟩ h11
    have h5 := zs_gR C dX4_wedTells_5 zf_4_0 zw_145 h8
    have h4 := zs_aload_n (i := 0) C dX4_wedTells_4 rfl h5
    have h1 := zs_gR C dX4_wedTells_1 zf_4_6 zw_151 h4
    have h0 := zs_aload_n (i := 0) C dX4_wedTells_0 rfl h1
    exact h0
  case hG =>
    intro as μ r h
    obtain ⟨x0, x1, x2, x3, x4, x5, rfl, h⟩ := g_X4_wedTells_i h
    exact ⟨Nat.le_of_ble_eq_true rfl, h⟩
theorem m_X4_wedTells (N : Nat) : zk_MV yX4_wedTells cX4_wedTells 6 (some .boolean) ({ frames := 4, cells := 0, slots := 0, locals := 93 } : Room) zq_I (g_X4_wedTells N) 5 4 := ⟨c_X4_wedTells N, zw_498, zw_497, zw_11, zw_26, rfl, rfl, by decide +kernel, by decide, ⟨TX4, 8, rfl⟩, fun as μ r h => by obtain ⟨x0, x1, x2, x3, x4, x5, rfl, -⟩ := g_X4_wedTells_i h; exact ⟨_, _, rfl⟩⟩
-- LongestWed.howManyWedHeard(ILLongestWed$Sheet;II)I
def f_X4_howManyWedHeard_L6 (N : Nat) : Nat → Nat → Int32 → Nat → Int32 → Int32 → Int32 → Int32 → ZM → Option (Int32 × ZM)
  | 0, _, _, _, _, _, _, _, _ => none
  | n + 1, x0, x1, x2, x3, x4, x5, x6, μ =>
    if (80 : Int32) < x6 then
      some (x5, μ)
    else
      (f_X4_wedTells N x0 x1 x6 x2 x3 x4 μ).bind fun r1 =>
      if r1.1 = 0 then
        f_X4_howManyWedHeard_L6 N n x0 x1 x2 x3 x4 x5 (x6 + 1) r1.2
      else
        f_X4_howManyWedHeard_L6 N n x0 x1 x2 x3 x4 (x5 + 1) (x6 + 1) r1.2
def k_X4_howManyWedHeard_L6 (N n : Nat) : ZK (Int32 × ZM) := fun L st μ => match L, st with
  | [some (.inr (.inr (4, x0))), some (.inl x1), some (.inr (.inr (1, x2))), some (.inl x3), some (.inl x4), some (.inl x5), some (.inl x6)], [] => f_X4_howManyWedHeard_L6 N n x0 x1 x2 x3 x4 x5 x6 μ
  | _, _ => none
theorem k_X4_howManyWedHeard_L6_i {N : Nat} {n : Nat} {L : ZL} {st : List ZV} {μ : ZM} {r : Int32 × ZM} (h : k_X4_howManyWedHeard_L6 N n L st μ = some r) : ∃ (x0 : Nat) (x1 : Int32) (x2 : Nat) (x3 : Int32) (x4 : Int32) (x5 : Int32) (x6 : Int32), L = [some (.inr (.inr (4, x0))), some (.inl x1), some (.inr (.inr (1, x2))), some (.inl x3), some (.inl x4), some (.inl x5), some (.inl x6)] ∧ st = [] ∧ f_X4_howManyWedHeard_L6 N n x0 x1 x2 x3 x4 x5 x6 μ = some r := by
  unfold k_X4_howManyWedHeard_L6 at h
  split at h
  · exact ⟨_, _, _, _, _, _, _, rfl, rfl, h⟩
  · cases h
set_option maxRecDepth 100000 in
theorem s_X4_howManyWedHeard_L6 (N : Nat) {X : ZX} {E : ZE} (C : zk_X X E RX4 cX4_howManyWedHeard 7 (some .int) ({ frames := 5, cells := 0, slots := 0, locals := 118 } : Room)) : ∀ n, zk_S X E 7 zq_I 6 (k_X4_howManyWedHeard_L6 N n) := by
  intro n
  induction n with
  | zero =>
    intro H locs ls L st μ r h hL hst hW hS
    obtain ⟨x0, x1, x2, x3, x4, x5, x6, rfl, rfl, h⟩ := k_X4_howManyWedHeard_L6_i h
    exact nomatch (show none = some r from h)
  | succ n ih =>
    have h38 := zs_iret C dX4_howManyWedHeard_38
    have h36 := zs_iload (i := 5) C dX4_howManyWedHeard_36 h38
    have h33 := zs_goto (tgt := 6) C dX4_howManyWedHeard_33 (by decide) ih
    have h30 := zs_iinc (n := 1) C dX4_howManyWedHeard_30 (by decide) h33
    have h27 := zs_iinc (n := 1) C dX4_howManyWedHeard_27 (by decide) h30
    have h24 := zs_if_eq (tgt := 30) C dX4_howManyWedHeard_24 (by decide) h30 h27
    have h21 := zs_vI C dX4_howManyWedHeard_21 (m_X4_wedTells N) zw_495 ⟨Nat.le_of_ble_eq_true rfl, Nat.le_of_ble_eq_true rfl⟩ h24
    have h19 := zs_iload (i := 4) C dX4_howManyWedHeard_19 h21
    have h18 := zs_iload_n (i := 3) C dX4_howManyWedHeard_18 rfl h19
    have h17 := zs_aload_n (i := 2) C dX4_howManyWedHeard_17 rfl h18
    have h15 := zs_iload (i := 6) C dX4_howManyWedHeard_15 h17
    have h14 := zs_iload_n (i := 1) C dX4_howManyWedHeard_14 rfl h15
    have h13 := zs_aload_n (i := 0) C dX4_howManyWedHeard_13 rfl h14
    have h10 := zs_icmp_gt (tgt := 36) C dX4_howManyWedHeard_10 (by decide) h36 h13
    have h8 := zs_bipush (v := 80) C dX4_howManyWedHeard_8 (by decide) h10
    have h6 := zs_iload (i := 6) C dX4_howManyWedHeard_6 h8
    intro H locs ls L st μ r h hL hst hW hS
    obtain ⟨x0, x1, x2, x3, x4, x5, x6, rfl, rfl, h⟩ := k_X4_howManyWedHeard_L6_i h
    exact h6 H locs ls [some (.inr (.inr (4, x0))), some (.inl x1), some (.inr (.inr (1, x2))), some (.inl x3), some (.inl x4), some (.inl x5), some (.inl x6)] [] μ r h (hL.less ⟨rfl, rfl, rfl, rfl, rfl, rfl, rfl, trivial⟩) hst hW hS
def f_X4_howManyWedHeard (N : Nat) (x0 : Nat) (x1 : Int32) (x2 : Nat) (x3 : Int32) (x4 : Int32) (μ : ZM) : Option (Int32 × ZM) :=
  f_X4_howManyWedHeard_L6 N N x0 x1 x2 x3 x4 0 0 μ
def g_X4_howManyWedHeard (N : Nat) (as : List ZV) (μ : ZM) : Option (Int32 × ZM) := match as with
  | [.inr (.inr (4, x0)), .inl x1, .inr (.inr (1, x2)), .inl x3, .inl x4] => f_X4_howManyWedHeard N x0 x1 x2 x3 x4 μ
  | _ => none
theorem g_X4_howManyWedHeard_i {N : Nat} {as : List ZV} {μ : ZM} {r : Int32 × ZM} (h : g_X4_howManyWedHeard N as μ = some r) : ∃ (x0 : Nat) (x1 : Int32) (x2 : Nat) (x3 : Int32) (x4 : Int32), as = [.inr (.inr (4, x0)), .inl x1, .inr (.inr (1, x2)), .inl x3, .inl x4] ∧ f_X4_howManyWedHeard N x0 x1 x2 x3 x4 μ = some r := by
  unfold g_X4_howManyWedHeard at h
  split at h
  · exact ⟨_, _, _, _, _, rfl, h⟩
  · cases h
set_option maxRecDepth 100000 in
theorem c_X4_howManyWedHeard (N : Nat) : zk_C yX4_howManyWedHeard cX4_howManyWedHeard 7 (some .int) ({ frames := 5, cells := 0, slots := 0, locals := 118 } : Room) zq_I (g_X4_howManyWedHeard N) := by
  refine zk_met ?κ (by decide +kernel) ?hG ?body
  case body =>
    intro X E C
    have C : zk_X X E RX4 cX4_howManyWedHeard 7 (some .int) ({ frames := 5, cells := 0, slots := 0, locals := 118 } : Room) := C
    have e6 := s_X4_howManyWedHeard_L6 N C N
    have h4 := zs_istore (i := 6) C dX4_howManyWedHeard_4 e6
    have h3 := zs_iconst (v := 0) C dX4_howManyWedHeard_3 (by decide) h4
    have h1 := zs_istore (i := 5) C dX4_howManyWedHeard_1 h3
    have h0 := zs_iconst (v := 0) C dX4_howManyWedHeard_0 (by decide) h1
    exact h0
  case hG =>
    intro as μ r h
    obtain ⟨x0, x1, x2, x3, x4, rfl, h⟩ := g_X4_howManyWedHeard_i h
    exact ⟨Nat.le_of_ble_eq_true rfl, h⟩
theorem m_X4_howManyWedHeard (N : Nat) : zk_MV yX4_howManyWedHeard cX4_howManyWedHeard 7 (some .int) ({ frames := 5, cells := 0, slots := 0, locals := 118 } : Room) zq_I (g_X4_howManyWedHeard N) 4 4 := ⟨c_X4_howManyWedHeard N, zw_494, zw_493, zw_10, zw_26, rfl, rfl, by decide +kernel, by decide, ⟨TX4, 8, rfl⟩, fun as μ r h => by obtain ⟨x0, x1, x2, x3, x4, rfl, -⟩ := g_X4_howManyWedHeard_i h; exact ⟨_, _, rfl⟩⟩
-- LongestWed.isLane(I)Z
def f_X4_isLane (N : Nat) (x0 : Int32) (μ : ZM) : Option (Int32 × ZM) :=
  if x0 < 0 then
    zk_zr 0 μ
  else
    if (4 : Int32) ≤ x0 then
      zk_zr 0 μ
    else
      zk_zr 1 μ
def g_X4_isLane (N : Nat) (as : List ZV) (μ : ZM) : Option (Int32 × ZM) := match as with
  | [.inl x0] => f_X4_isLane N x0 μ
  | _ => none
theorem g_X4_isLane_i {N : Nat} {as : List ZV} {μ : ZM} {r : Int32 × ZM} (h : g_X4_isLane N as μ = some r) : ∃ (x0 : Int32), as = [.inl x0] ∧ f_X4_isLane N x0 μ = some r := by
  unfold g_X4_isLane at h
  split at h
  · exact ⟨_, rfl, h⟩
  · cases h
set_option maxRecDepth 100000 in
theorem c_X4_isLane (N : Nat) : zk_C yX4_isLane cX4_isLane 1 (some .boolean) ({ frames := 0, cells := 0, slots := 0, locals := 0 } : Room) zq_I (g_X4_isLane N) := by
  refine zk_met ?κ (by decide +kernel) ?hG ?body
  case body =>
    intro X E C
    have C : zk_X X E RX4 cX4_isLane 1 (some .boolean) ({ frames := 0, cells := 0, slots := 0, locals := 0 } : Room) := C
    have h14 := zs_zret C dX4_isLane_14
    have h13 := zs_iconst (v := 0) C dX4_isLane_13 (by decide) h14
    have h10 := zs_goto (tgt := 14) C dX4_isLane_10 (by decide) h14
    have h9 := zs_iconst (v := 1) C dX4_isLane_9 (by decide) h10
    have h6 := zs_icmp_ge (tgt := 13) C dX4_isLane_6 (by decide) h13 h9
    have h5 := zs_iconst (v := 4) C dX4_isLane_5 (by decide) h6
    have h4 := zs_iload_n (i := 0) C dX4_isLane_4 rfl h5
    have h1 := zs_if_lt (tgt := 13) C dX4_isLane_1 (by decide) h13 h4
    have h0 := zs_iload_n (i := 0) C dX4_isLane_0 rfl h1
    exact h0
  case hG =>
    intro as μ r h
    obtain ⟨x0, rfl, h⟩ := g_X4_isLane_i h
    exact ⟨Nat.le_of_ble_eq_true rfl, h⟩
theorem m_X4_isLane (N : Nat) : zk_MS yX4_isLane cX4_isLane 1 (some .boolean) ({ frames := 0, cells := 0, slots := 0, locals := 0 } : Room) zq_I (g_X4_isLane N) 1 := ⟨c_X4_isLane N, zw_470, zw_469, zw_26, rfl, rfl, by decide +kernel⟩
-- LongestWed.isSheet(I)Z
def f_X4_isSheet (N : Nat) (x0 : Int32) (μ : ZM) : Option (Int32 × ZM) :=
  if x0 < 0 then
    zk_zr 0 μ
  else
    if (4 : Int32) ≤ x0 then
      zk_zr 0 μ
    else
      zk_zr 1 μ
def g_X4_isSheet (N : Nat) (as : List ZV) (μ : ZM) : Option (Int32 × ZM) := match as with
  | [.inl x0] => f_X4_isSheet N x0 μ
  | _ => none
theorem g_X4_isSheet_i {N : Nat} {as : List ZV} {μ : ZM} {r : Int32 × ZM} (h : g_X4_isSheet N as μ = some r) : ∃ (x0 : Int32), as = [.inl x0] ∧ f_X4_isSheet N x0 μ = some r := by
  unfold g_X4_isSheet at h
  split at h
  · exact ⟨_, rfl, h⟩
  · cases h
set_option maxRecDepth 100000 in
theorem c_X4_isSheet (N : Nat) : zk_C yX4_isSheet cX4_isSheet 1 (some .boolean) ({ frames := 0, cells := 0, slots := 0, locals := 0 } : Room) zq_I (g_X4_isSheet N) := by
  refine zk_met ?κ (by decide +kernel) ?hG ?body
  case body =>
    intro X E C
    have C : zk_X X E RX4 cX4_isSheet 1 (some .boolean) ({ frames := 0, cells := 0, slots := 0, locals := 0 } : Room) := C
    have h14 := zs_zret C dX4_isSheet_14
    have h13 := zs_iconst (v := 0) C dX4_isSheet_13 (by decide) h14
    have h10 := zs_goto (tgt := 14) C dX4_isSheet_10 (by decide) h14
    have h9 := zs_iconst (v := 1) C dX4_isSheet_9 (by decide) h10
    have h6 := zs_icmp_ge (tgt := 13) C dX4_isSheet_6 (by decide) h13 h9
    have h5 := zs_iconst (v := 4) C dX4_isSheet_5 (by decide) h6
    have h4 := zs_iload_n (i := 0) C dX4_isSheet_4 rfl h5
    have h1 := zs_if_lt (tgt := 13) C dX4_isSheet_1 (by decide) h13 h4
    have h0 := zs_iload_n (i := 0) C dX4_isSheet_0 rfl h1
    exact h0
  case hG =>
    intro as μ r h
    obtain ⟨x0, rfl, h⟩ := g_X4_isSheet_i h
    exact ⟨Nat.le_of_ble_eq_true rfl, h⟩
theorem m_X4_isSheet (N : Nat) : zk_MS yX4_isSheet cX4_isSheet 1 (some .boolean) ({ frames := 0, cells := 0, slots := 0, locals := 0 } : Room) zq_I (g_X4_isSheet N) 1 := ⟨c_X4_isSheet N, zw_467, zw_466, zw_26, rfl, rfl, by decide +kernel⟩
-- LongestWed.kindsHeard(ILLongestWed$Sheet;II)I
def f_X4_kindsHeard_L6 (N : Nat) : Nat → Nat → Int32 → Nat → Int32 → Int32 → Int32 → Int32 → ZM → Option (Int32 × ZM)
  | 0, _, _, _, _, _, _, _, _ => none
  | n + 1, x0, x1, x2, x3, x4, x5, x6, μ =>
    if (5 : Int32) ≤ x6 then
      some (x5, μ)
    else
      (f_X3_become N (x0 + 98) (x0 + 1) μ).bind fun r1 =>
      if zk_o x1 7 = true then none else
      let μ2 := zk_si r1 ((x0 + 98) + 1) (Int32.toNatClampNeg x1) x6
      (f_X4_trialTells N x0 x1 x2 x3 x4 μ2).bind fun r3 =>
      if r3.1 = 0 then
        f_X4_kindsHeard_L6 N n x0 x1 x2 x3 x4 x5 (x6 + 1) r3.2
      else
        f_X4_kindsHeard_L6 N n x0 x1 x2 x3 x4 (x5 ||| (1 <<< (x6 &&& 31))) (x6 + 1) r3.2
def k_X4_kindsHeard_L6 (N n : Nat) : ZK (Int32 × ZM) := fun L st μ => match L, st with
  | [some (.inr (.inr (4, x0))), some (.inl x1), some (.inr (.inr (1, x2))), some (.inl x3), some (.inl x4), some (.inl x5), some (.inl x6)], [] => f_X4_kindsHeard_L6 N n x0 x1 x2 x3 x4 x5 x6 μ
  | _, _ => none
theorem k_X4_kindsHeard_L6_i {N : Nat} {n : Nat} {L : ZL} {st : List ZV} {μ : ZM} {r : Int32 × ZM} (h : k_X4_kindsHeard_L6 N n L st μ = some r) : ∃ (x0 : Nat) (x1 : Int32) (x2 : Nat) (x3 : Int32) (x4 : Int32) (x5 : Int32) (x6 : Int32), L = [some (.inr (.inr (4, x0))), some (.inl x1), some (.inr (.inr (1, x2))), some (.inl x3), some (.inl x4), some (.inl x5), some (.inl x6)] ∧ st = [] ∧ f_X4_kindsHeard_L6 N n x0 x1 x2 x3 x4 x5 x6 μ = some r := by
  unfold k_X4_kindsHeard_L6 at h
  split at h
  · exact ⟨_, _, _, _, _, _, _, rfl, rfl, h⟩
  · cases h
set_option maxRecDepth 100000 in
theorem s_X4_kindsHeard_L6 (N : Nat) {X : ZX} {E : ZE} (C : zk_X X E RX4 cX4_kindsHeard 7 (some .int) ({ frames := 4, cells := 0, slots := 0, locals := 93 } : Room)) : ∀ n, zk_S X E 7 zq_I 6 (k_X4_kindsHeard_L6 N n) := by
  intro n
  induction n with
  | zero =>
    intro H locs ls L st μ r h hL hst hW hS
    obtain ⟨x0, x1, x2, x3, x4, x5, x6, rfl, rfl, h⟩ := k_X4_kindsHeard_L6_i h
    exact nomatch (show none = some r from h)
  | succ n ih =>
    have h63 := zs_iret C dX4_kindsHeard_63
    have h61 := zs_iload (i := 5) C dX4_kindsHeard_61 h63
    have h58 := zs_goto (tgt := 6) C dX4_kindsHeard_58 (by decide) ih
    have h55 := zs_iinc (n := 1) C dX4_kindsHeard_55 (by decide) h58
    have h53 := zs_istore (i := 5) C dX4_kindsHeard_53 h55
    have h52 := zs_ior C dX4_kindsHeard_52 h53
    have h51 := zs_ishl C dX4_kindsHeard_51 h52
    have h49 := zs_iload (i := 6) C dX4_kindsHeard_49 h51
    have h48 := zs_iconst (v := 1) C dX4_kindsHeard_48 (by decide) h49
    have h46 := zs_iload (i := 5) C dX4_kindsHeard_46 h48
    have h43 := zs_if_eq (tgt := 55) C dX4_kindsHeard_43 (by decide) h55 h46
    have h40 := zs_vI C dX4_kindsHeard_40 (m_X4_trialTells N) zw_483 ⟨Nat.le_of_ble_eq_true rfl, Nat.le_of_ble_eq_true rfl⟩ h43
    have h38 := zs_iload (i := 4) C dX4_kindsHeard_38 h40
    have h37 := zs_iload_n (i := 3) C dX4_kindsHeard_37 rfl h38
    have h36 := zs_aload_n (i := 2) C dX4_kindsHeard_36 rfl h37
    have h35 := zs_iload_n (i := 1) C dX4_kindsHeard_35 rfl h36
    have h34 := zs_aload_n (i := 0) C dX4_kindsHeard_34 rfl h35
    have h33 := zs_iast (n := 7) C dX4_kindsHeard_33 (by decide) h34
    have h31 := zs_iload (i := 6) C dX4_kindsHeard_31 h33
    have h30 := zs_iload_n (i := 1) C dX4_kindsHeard_30 rfl h31
    have h27 := zs_gR C dX4_kindsHeard_27 zf_3_0 zw_50 h30
    have h24 := zs_gR C dX4_kindsHeard_24 zf_4_6 zw_151 h27
    have h23 := zs_aload_n (i := 0) C dX4_kindsHeard_23 rfl h24
    have h20 := zs_vV C dX4_kindsHeard_20 (m_X3_become N) zw_269 ⟨Nat.le_of_ble_eq_true rfl, Nat.le_of_ble_eq_true rfl⟩ h23
    have h17 := zs_gR C dX4_kindsHeard_17 zf_4_0 zw_145 h20
    have h16 := zs_aload_n (i := 0) C dX4_kindsHeard_16 rfl h17
    have h13 := zs_gR C dX4_kindsHeard_13 zf_4_6 zw_151 h16
    have h12 := zs_aload_n (i := 0) C dX4_kindsHeard_12 rfl h13
    have h9 := zs_icmp_ge (tgt := 61) C dX4_kindsHeard_9 (by decide) h61 h12
    have h8 := zs_iconst (v := 5) C dX4_kindsHeard_8 (by decide) h9
    have h6 := zs_iload (i := 6) C dX4_kindsHeard_6 h8
    intro H locs ls L st μ r h hL hst hW hS
    obtain ⟨x0, x1, x2, x3, x4, x5, x6, rfl, rfl, h⟩ := k_X4_kindsHeard_L6_i h
    exact h6 H locs ls [some (.inr (.inr (4, x0))), some (.inl x1), some (.inr (.inr (1, x2))), some (.inl x3), some (.inl x4), some (.inl x5), some (.inl x6)] [] μ r h (hL.less ⟨rfl, rfl, rfl, rfl, rfl, rfl, rfl, trivial⟩) hst hW hS
def f_X4_kindsHeard (N : Nat) (x0 : Nat) (x1 : Int32) (x2 : Nat) (x3 : Int32) (x4 : Int32) (μ : ZM) : Option (Int32 × ZM) :=
  f_X4_kindsHeard_L6 N N x0 x1 x2 x3 x4 0 0 μ
def g_X4_kindsHeard (N : Nat) (as : List ZV) (μ : ZM) : Option (Int32 × ZM) := match as with
  | [.inr (.inr (4, x0)), .inl x1, .inr (.inr (1, x2)), .inl x3, .inl x4] => f_X4_kindsHeard N x0 x1 x2 x3 x4 μ
  | _ => none
theorem g_X4_kindsHeard_i {N : Nat} {as : List ZV} {μ : ZM} {r : Int32 × ZM} (h : g_X4_kindsHeard N as μ = some r) : ∃ (x0 : Nat) (x1 : Int32) (x2 : Nat) (x3 : Int32) (x4 : Int32), as = [.inr (.inr (4, x0)), .inl x1, .inr (.inr (1, x2)), .inl x3, .inl x4] ∧ f_X4_kindsHeard N x0 x1 x2 x3 x4 μ = some r := by
  unfold g_X4_kindsHeard at h
  split at h
  · exact ⟨_, _, _, _, _, rfl, h⟩
  · cases h
set_option maxRecDepth 100000 in
theorem c_X4_kindsHeard (N : Nat) : zk_C yX4_kindsHeard cX4_kindsHeard 7 (some .int) ({ frames := 4, cells := 0, slots := 0, locals := 93 } : Room) zq_I (g_X4_kindsHeard N) := by
  refine zk_met ?κ (by decide +kernel) ?hG ?body
  case body =>
    intro X E C
    have C : zk_X X E RX4 cX4_kindsHeard 7 (some .int) ({ frames := 4, cells := 0, slots := 0, locals := 93 } : Room) := C
    have e6 := s_X4_kindsHeard_L6 N C N
    have h4 := zs_istore (i := 6) C dX4_kindsHeard_4 e6
    have h3 := zs_iconst (v := 0) C dX4_kindsHeard_3 (by decide) h4
    have h1 := zs_istore (i := 5) C dX4_kindsHeard_1 h3
    have h0 := zs_iconst (v := 0) C dX4_kindsHeard_0 (by decide) h1
    exact h0
  case hG =>
    intro as μ r h
    obtain ⟨x0, x1, x2, x3, x4, rfl, h⟩ := g_X4_kindsHeard_i h
    exact ⟨Nat.le_of_ble_eq_true rfl, h⟩
theorem m_X4_kindsHeard (N : Nat) : zk_MV yX4_kindsHeard cX4_kindsHeard 7 (some .int) ({ frames := 4, cells := 0, slots := 0, locals := 93 } : Room) zq_I (g_X4_kindsHeard N) 4 4 := ⟨c_X4_kindsHeard N, zw_482, zw_481, zw_7, zw_26, rfl, rfl, by decide +kernel, by decide, ⟨TX4, 8, rfl⟩, fun as μ r h => by obtain ⟨x0, x1, x2, x3, x4, rfl, -⟩ := g_X4_kindsHeard_i h; exact ⟨_, _, rfl⟩⟩
-- LongestWed.leastWedHeard(ILLongestWed$Sheet;II)I
def f_X4_leastWedHeard_L3 (N : Nat) : Nat → Nat → Int32 → Nat → Int32 → Int32 → Int32 → ZM → Option (Int32 × ZM)
  | 0, _, _, _, _, _, _, _ => none
  | n + 1, x0, x1, x2, x3, x4, x5, μ =>
    if (80 : Int32) < x5 then
      some ((-4), μ)
    else
      (f_X4_wedTells N x0 x1 x5 x2 x3 x4 μ).bind fun r1 =>
      if r1.1 = 0 then
        f_X4_leastWedHeard_L3 N n x0 x1 x2 x3 x4 (x5 + 1) r1.2
      else
        some (x5, r1.2)
def k_X4_leastWedHeard_L3 (N n : Nat) : ZK (Int32 × ZM) := fun L st μ => match L, st with
  | [some (.inr (.inr (4, x0))), some (.inl x1), some (.inr (.inr (1, x2))), some (.inl x3), some (.inl x4), some (.inl x5)], [] => f_X4_leastWedHeard_L3 N n x0 x1 x2 x3 x4 x5 μ
  | _, _ => none
theorem k_X4_leastWedHeard_L3_i {N : Nat} {n : Nat} {L : ZL} {st : List ZV} {μ : ZM} {r : Int32 × ZM} (h : k_X4_leastWedHeard_L3 N n L st μ = some r) : ∃ (x0 : Nat) (x1 : Int32) (x2 : Nat) (x3 : Int32) (x4 : Int32) (x5 : Int32), L = [some (.inr (.inr (4, x0))), some (.inl x1), some (.inr (.inr (1, x2))), some (.inl x3), some (.inl x4), some (.inl x5)] ∧ st = [] ∧ f_X4_leastWedHeard_L3 N n x0 x1 x2 x3 x4 x5 μ = some r := by
  unfold k_X4_leastWedHeard_L3 at h
  split at h
  · exact ⟨_, _, _, _, _, _, rfl, rfl, h⟩
  · cases h
set_option maxRecDepth 100000 in
theorem s_X4_leastWedHeard_L3 (N : Nat) {X : ZX} {E : ZE} (C : zk_X X E RX4 cX4_leastWedHeard 6 (some .int) ({ frames := 5, cells := 0, slots := 0, locals := 118 } : Room)) : ∀ n, zk_S X E 6 zq_I 3 (k_X4_leastWedHeard_L3 N n) := by
  intro n
  induction n with
  | zero =>
    intro H locs ls L st μ r h hL hst hW hS
    obtain ⟨x0, x1, x2, x3, x4, x5, rfl, rfl, h⟩ := k_X4_leastWedHeard_L3_i h
    exact nomatch (show none = some r from h)
  | succ n ih =>
    have h35 := zs_iret C dX4_leastWedHeard_35
    have h33 := zs_bipush (v := (-4)) C dX4_leastWedHeard_33 (by decide) h35
    have h30 := zs_goto (tgt := 3) C dX4_leastWedHeard_30 (by decide) ih
    have h27 := zs_iinc (n := 1) C dX4_leastWedHeard_27 (by decide) h30
    have h26 := zs_iret C dX4_leastWedHeard_26
    have h24 := zs_iload (i := 5) C dX4_leastWedHeard_24 h26
    have h21 := zs_if_eq (tgt := 27) C dX4_leastWedHeard_21 (by decide) h27 h24
    have h18 := zs_vI C dX4_leastWedHeard_18 (m_X4_wedTells N) zw_495 ⟨Nat.le_of_ble_eq_true rfl, Nat.le_of_ble_eq_true rfl⟩ h21
    have h16 := zs_iload (i := 4) C dX4_leastWedHeard_16 h18
    have h15 := zs_iload_n (i := 3) C dX4_leastWedHeard_15 rfl h16
    have h14 := zs_aload_n (i := 2) C dX4_leastWedHeard_14 rfl h15
    have h12 := zs_iload (i := 5) C dX4_leastWedHeard_12 h14
    have h11 := zs_iload_n (i := 1) C dX4_leastWedHeard_11 rfl h12
    have h10 := zs_aload_n (i := 0) C dX4_leastWedHeard_10 rfl h11
    have h7 := zs_icmp_gt (tgt := 33) C dX4_leastWedHeard_7 (by decide) h33 h10
    have h5 := zs_bipush (v := 80) C dX4_leastWedHeard_5 (by decide) h7
    have h3 := zs_iload (i := 5) C dX4_leastWedHeard_3 h5
    intro H locs ls L st μ r h hL hst hW hS
    obtain ⟨x0, x1, x2, x3, x4, x5, rfl, rfl, h⟩ := k_X4_leastWedHeard_L3_i h
    exact h3 H locs ls [some (.inr (.inr (4, x0))), some (.inl x1), some (.inr (.inr (1, x2))), some (.inl x3), some (.inl x4), some (.inl x5)] [] μ r h (hL.less ⟨rfl, rfl, rfl, rfl, rfl, rfl, trivial⟩) hst hW hS
def f_X4_leastWedHeard (N : Nat) (x0 : Nat) (x1 : Int32) (x2 : Nat) (x3 : Int32) (x4 : Int32) (μ : ZM) : Option (Int32 × ZM) :=
  f_X4_leastWedHeard_L3 N N x0 x1 x2 x3 x4 0 μ
def g_X4_leastWedHeard (N : Nat) (as : List ZV) (μ : ZM) : Option (Int32 × ZM) := match as with
  | [.inr (.inr (4, x0)), .inl x1, .inr (.inr (1, x2)), .inl x3, .inl x4] => f_X4_leastWedHeard N x0 x1 x2 x3 x4 μ
  | _ => none
theorem g_X4_leastWedHeard_i {N : Nat} {as : List ZV} {μ : ZM} {r : Int32 × ZM} (h : g_X4_leastWedHeard N as μ = some r) : ∃ (x0 : Nat) (x1 : Int32) (x2 : Nat) (x3 : Int32) (x4 : Int32), as = [.inr (.inr (4, x0)), .inl x1, .inr (.inr (1, x2)), .inl x3, .inl x4] ∧ f_X4_leastWedHeard N x0 x1 x2 x3 x4 μ = some r := by
  unfold g_X4_leastWedHeard at h
  split at h
  · exact ⟨_, _, _, _, _, rfl, h⟩
  · cases h
set_option maxRecDepth 100000 in
theorem c_X4_leastWedHeard (N : Nat) : zk_C yX4_leastWedHeard cX4_leastWedHeard 6 (some .int) ({ frames := 5, cells := 0, slots := 0, locals := 118 } : Room) zq_I (g_X4_leastWedHeard N) := by
  refine zk_met ?κ (by decide +kernel) ?hG ?body
  case body =>
    intro X E C
    have C : zk_X X E RX4 cX4_leastWedHeard 6 (some .int) ({ frames := 5, cells := 0, slots := 0, locals := 118 } : Room) := C
    have e3 := s_X4_leastWedHeard_L3 N C N
    have h1 := zs_istore (i := 5) C dX4_leastWedHeard_1 e3
    have h0 := zs_iconst (v := 0) C dX4_leastWedHeard_0 (by decide) h1
    exact h0
  case hG =>
    intro as μ r h
    obtain ⟨x0, x1, x2, x3, x4, rfl, h⟩ := g_X4_leastWedHeard_i h
    exact ⟨Nat.le_of_ble_eq_true rfl, h⟩
theorem m_X4_leastWedHeard (N : Nat) : zk_MV yX4_leastWedHeard cX4_leastWedHeard 6 (some .int) ({ frames := 5, cells := 0, slots := 0, locals := 118 } : Room) zq_I (g_X4_leastWedHeard N) 4 4 := ⟨c_X4_leastWedHeard N, zw_502, zw_501, zw_12, zw_26, rfl, rfl, by decide +kernel, by decide, ⟨TX4, 8, rfl⟩, fun as μ r h => by obtain ⟨x0, x1, x2, x3, x4, rfl, -⟩ := g_X4_leastWedHeard_i h; exact ⟨_, _, rfl⟩⟩
-- LongestWed.tempersHeard(ILLongestWed$Sheet;II)I
def f_X4_tempersHeard_L6 (N : Nat) : Nat → Nat → Int32 → Nat → Int32 → Int32 → Int32 → Int32 → ZM → Option (Int32 × ZM)
  | 0, _, _, _, _, _, _, _, _ => none
  | n + 1, x0, x1, x2, x3, x4, x5, x6, μ =>
    if (19 : Int32) < x6 then
      some (x5, μ)
    else
      (f_X3_become N (x0 + 98) (x0 + 1) μ).bind fun r1 =>
      if zk_o x1 7 = true then none else
      let μ2 := zk_si r1 ((x0 + 98) + 4) (Int32.toNatClampNeg x1) x6
      (f_X4_trialTells N x0 x1 x2 x3 x4 μ2).bind fun r3 =>
      if r3.1 = 0 then
        f_X4_tempersHeard_L6 N n x0 x1 x2 x3 x4 x5 (x6 + 1) r3.2
      else
        f_X4_tempersHeard_L6 N n x0 x1 x2 x3 x4 (x5 ||| (1 <<< (x6 &&& 31))) (x6 + 1) r3.2
def k_X4_tempersHeard_L6 (N n : Nat) : ZK (Int32 × ZM) := fun L st μ => match L, st with
  | [some (.inr (.inr (4, x0))), some (.inl x1), some (.inr (.inr (1, x2))), some (.inl x3), some (.inl x4), some (.inl x5), some (.inl x6)], [] => f_X4_tempersHeard_L6 N n x0 x1 x2 x3 x4 x5 x6 μ
  | _, _ => none
theorem k_X4_tempersHeard_L6_i {N : Nat} {n : Nat} {L : ZL} {st : List ZV} {μ : ZM} {r : Int32 × ZM} (h : k_X4_tempersHeard_L6 N n L st μ = some r) : ∃ (x0 : Nat) (x1 : Int32) (x2 : Nat) (x3 : Int32) (x4 : Int32) (x5 : Int32) (x6 : Int32), L = [some (.inr (.inr (4, x0))), some (.inl x1), some (.inr (.inr (1, x2))), some (.inl x3), some (.inl x4), some (.inl x5), some (.inl x6)] ∧ st = [] ∧ f_X4_tempersHeard_L6 N n x0 x1 x2 x3 x4 x5 x6 μ = some r := by
  unfold k_X4_tempersHeard_L6 at h
  split at h
  · exact ⟨_, _, _, _, _, _, _, rfl, rfl, h⟩
  · cases h
set_option maxRecDepth 100000 in
theorem s_X4_tempersHeard_L6 (N : Nat) {X : ZX} {E : ZE} (C : zk_X X E RX4 cX4_tempersHeard 7 (some .int) ({ frames := 4, cells := 0, slots := 0, locals := 93 } : Room)) : ∀ n, zk_S X E 7 zq_I 6 (k_X4_tempersHeard_L6 N n) := by
  intro n
  induction n with
  | zero =>
    intro H locs ls L st μ r h hL hst hW hS
    obtain ⟨x0, x1, x2, x3, x4, x5, x6, rfl, rfl, h⟩ := k_X4_tempersHeard_L6_i h
    exact nomatch (show none = some r from h)
  | succ n ih =>
    have h64 := zs_iret C dX4_tempersHeard_64
    have h62 := zs_iload (i := 5) C dX4_tempersHeard_62 h64
    have h59 := zs_goto (tgt := 6) C dX4_tempersHeard_59 (by decide) ih
    have h56 := zs_iinc (n := 1) C dX4_tempersHeard_56 (by decide) h59
    have h54 := zs_istore (i := 5) C dX4_tempersHeard_54 h56
    have h53 := zs_ior C dX4_tempersHeard_53 h54
    have h52 := zs_ishl C dX4_tempersHeard_52 h53
    have h50 := zs_iload (i := 6) C dX4_tempersHeard_50 h52
    have h49 := zs_iconst (v := 1) C dX4_tempersHeard_49 (by decide) h50
    have h47 := zs_iload (i := 5) C dX4_tempersHeard_47 h49
    have h44 := zs_if_eq (tgt := 56) C dX4_tempersHeard_44 (by decide) h56 h47
    have h41 := zs_vI C dX4_tempersHeard_41 (m_X4_trialTells N) zw_483 ⟨Nat.le_of_ble_eq_true rfl, Nat.le_of_ble_eq_true rfl⟩ h44
    have h39 := zs_iload (i := 4) C dX4_tempersHeard_39 h41
    have h38 := zs_iload_n (i := 3) C dX4_tempersHeard_38 rfl h39
    have h37 := zs_aload_n (i := 2) C dX4_tempersHeard_37 rfl h38
    have h36 := zs_iload_n (i := 1) C dX4_tempersHeard_36 rfl h37
    have h35 := zs_aload_n (i := 0) C dX4_tempersHeard_35 rfl h36
    have h34 := zs_iast (n := 7) C dX4_tempersHeard_34 (by decide) h35
    have h32 := zs_iload (i := 6) C dX4_tempersHeard_32 h34
    have h31 := zs_iload_n (i := 1) C dX4_tempersHeard_31 rfl h32
    have h28 := zs_gR C dX4_tempersHeard_28 zf_3_3 zw_56 h31
    have h25 := zs_gR C dX4_tempersHeard_25 zf_4_6 zw_151 h28
    have h24 := zs_aload_n (i := 0) C dX4_tempersHeard_24 rfl h25
    have h21 := zs_vV C dX4_tempersHeard_21 (m_X3_become N) zw_269 ⟨Nat.le_of_ble_eq_true rfl, Nat.le_of_ble_eq_true rfl⟩ h24
    have h18 := zs_gR C dX4_tempersHeard_18 zf_4_0 zw_145 h21
    have h17 := zs_aload_n (i := 0) C dX4_tempersHeard_17 rfl h18
    have h14 := zs_gR C dX4_tempersHeard_14 zf_4_6 zw_151 h17
    have h13 := zs_aload_n (i := 0) C dX4_tempersHeard_13 rfl h14
    have h10 := zs_icmp_gt (tgt := 62) C dX4_tempersHeard_10 (by decide) h62 h13
    have h8 := zs_bipush (v := 19) C dX4_tempersHeard_8 (by decide) h10
    have h6 := zs_iload (i := 6) C dX4_tempersHeard_6 h8
    intro H locs ls L st μ r h hL hst hW hS
    obtain ⟨x0, x1, x2, x3, x4, x5, x6, rfl, rfl, h⟩ := k_X4_tempersHeard_L6_i h
    exact h6 H locs ls [some (.inr (.inr (4, x0))), some (.inl x1), some (.inr (.inr (1, x2))), some (.inl x3), some (.inl x4), some (.inl x5), some (.inl x6)] [] μ r h (hL.less ⟨rfl, rfl, rfl, rfl, rfl, rfl, rfl, trivial⟩) hst hW hS
def f_X4_tempersHeard (N : Nat) (x0 : Nat) (x1 : Int32) (x2 : Nat) (x3 : Int32) (x4 : Int32) (μ : ZM) : Option (Int32 × ZM) :=
  f_X4_tempersHeard_L6 N N x0 x1 x2 x3 x4 0 0 μ
def g_X4_tempersHeard (N : Nat) (as : List ZV) (μ : ZM) : Option (Int32 × ZM) := match as with
  | [.inr (.inr (4, x0)), .inl x1, .inr (.inr (1, x2)), .inl x3, .inl x4] => f_X4_tempersHeard N x0 x1 x2 x3 x4 μ
  | _ => none
theorem g_X4_tempersHeard_i {N : Nat} {as : List ZV} {μ : ZM} {r : Int32 × ZM} (h : g_X4_tempersHeard N as μ = some r) : ∃ (x0 : Nat) (x1 : Int32) (x2 : Nat) (x3 : Int32) (x4 : Int32), as = [.inr (.inr (4, x0)), .inl x1, .inr (.inr (1, x2)), .inl x3, .inl x4] ∧ f_X4_tempersHeard N x0 x1 x2 x3 x4 μ = some r := by
  unfold g_X4_tempersHeard at h
  split at h
  · exact ⟨_, _, _, _, _, rfl, h⟩
  · cases h
set_option maxRecDepth 100000 in
theorem c_X4_tempersHeard (N : Nat) : zk_C yX4_tempersHeard cX4_tempersHeard 7 (some .int) ({ frames := 4, cells := 0, slots := 0, locals := 93 } : Room) zq_I (g_X4_tempersHeard N) := by
  refine zk_met ?κ (by decide +kernel) ?hG ?body
  case body =>
    intro X E C
    have C : zk_X X E RX4 cX4_tempersHeard 7 (some .int) ({ frames := 4, cells := 0, slots := 0, locals := 93 } : Room) := C
    have e6 := s_X4_tempersHeard_L6 N C N
    have h4 := zs_istore (i := 6) C dX4_tempersHeard_4 e6
    have h3 := zs_iconst (v := 0) C dX4_tempersHeard_3 (by decide) h4
    have h1 := zs_istore (i := 5) C dX4_tempersHeard_1 h3
    have h0 := zs_iconst (v := 0) C dX4_tempersHeard_0 (by decide) h1
    exact h0
  case hG =>
    intro as μ r h
    obtain ⟨x0, x1, x2, x3, x4, rfl, h⟩ := g_X4_tempersHeard_i h
    exact ⟨Nat.le_of_ble_eq_true rfl, h⟩
theorem m_X4_tempersHeard (N : Nat) : zk_MV yX4_tempersHeard cX4_tempersHeard 7 (some .int) ({ frames := 4, cells := 0, slots := 0, locals := 93 } : Room) zq_I (g_X4_tempersHeard N) 4 4 := ⟨c_X4_tempersHeard N, zw_490, zw_489, zw_9, zw_26, rfl, rfl, by decide +kernel, by decide, ⟨TX4, 8, rfl⟩, fun as μ r h => by obtain ⟨x0, x1, x2, x3, x4, rfl, -⟩ := g_X4_tempersHeard_i h; exact ⟨_, _, rfl⟩⟩
-- LongestWed.heard(IIIIII)I
def f_X4_heard (N : Nat) (x0 : Nat) (x1 : Int32) (x2 : Int32) (x3 : Int32) (x4 : Int32) (x5 : Int32) (x6 : Int32) (μ : ZM) : Option (Int32 × ZM) :=
  (f_X4_isCouple N x0 x1 μ).bind fun r1 =>
  if r1.1 = 0 then
    some ((-1), r1.2)
  else
    (f_X4_isSheet N x2 r1.2).bind fun r2 =>
    if r2.1 = 0 then
      some ((-1), r2.2)
    else
      (f_X4_isLane N x3 r2.2).bind fun r3 =>
      if r3.1 = 0 then
        some ((-1), r3.2)
      else
        (f_X4_within N x5 1 8 r3.2).bind fun r4 =>
        if r4.1 = 0 then
          some ((-1), r4.2)
        else
          (f_X4_within N x6 0 3 r4.2).bind fun r5 =>
          if ¬ r5.1 = 0 then
            if zk_o x2 4 = true then none else
            (f_X1_faultOf N ((x0 + 97) + 6 + 2 * Int32.toNatClampNeg x2) x3 x4 x5 r5.2).bind fun r6 =>
            if r6.1 = 0 then
              if x6 = 0 then
                (f_X4_kindsHeard N x0 x1 ((x0 + 97) + 6 + 2 * Int32.toNatClampNeg x2) x4 x5 r6.2).bind fun r7 =>
                some (r7.1, r7.2)
              else
              if x6 = 1 then
                (f_X4_tempersHeard N x0 x1 ((x0 + 97) + 6 + 2 * Int32.toNatClampNeg x2) x4 x5 r6.2).bind fun r8 =>
                some (r8.1, r8.2)
              else
              if x6 = 2 then
                (f_X4_howManyWedHeard N x0 x1 ((x0 + 97) + 6 + 2 * Int32.toNatClampNeg x2) x4 x5 r6.2).bind fun r9 =>
                some (r9.1, r9.2)
              else
                (f_X4_leastWedHeard N x0 x1 ((x0 + 97) + 6 + 2 * Int32.toNatClampNeg x2) x4 x5 r6.2).bind fun r10 =>
                some (r10.1, r10.2)
            else
              some (r6.1, r6.2)
          else
            some ((-1), r5.2)
def g_X4_heard (N : Nat) (as : List ZV) (μ : ZM) : Option (Int32 × ZM) := match as with
  | [.inr (.inr (4, x0)), .inl x1, .inl x2, .inl x3, .inl x4, .inl x5, .inl x6] => f_X4_heard N x0 x1 x2 x3 x4 x5 x6 μ
  | _ => none
theorem g_X4_heard_i {N : Nat} {as : List ZV} {μ : ZM} {r : Int32 × ZM} (h : g_X4_heard N as μ = some r) : ∃ (x0 : Nat) (x1 : Int32) (x2 : Int32) (x3 : Int32) (x4 : Int32) (x5 : Int32) (x6 : Int32), as = [.inr (.inr (4, x0)), .inl x1, .inl x2, .inl x3, .inl x4, .inl x5, .inl x6] ∧ f_X4_heard N x0 x1 x2 x3 x4 x5 x6 μ = some r := by
  unfold g_X4_heard at h
  split at h
  · exact ⟨_, _, _, _, _, _, _, rfl, h⟩
  · cases h
set_option maxRecDepth 100000 in
theorem c_X4_heard (N : Nat) : zk_C yX4_heard cX4_heard 9 (some .int) ({ frames := 6, cells := 0, slots := 0, locals := 144 } : Room) zq_I (g_X4_heard N) := by
  refine zk_met ?κ (by decide +kernel) ?hG ?body
  case body =>
    intro X E C
    have C : zk_X X E RX4 cX4_heard 9 (some .int) ({ frames := 6, cells := 0, slots := 0, locals := 144 } : Room) := C
    have h147 := zs_iret C dX4_heard_147
    have h144 := zs_vI C dX4_heard_144 (m_X4_leastWedHeard N) zw_499 ⟨Nat.le_of_ble_eq_true rfl, Nat.le_of_ble_eq_true rfl⟩ h147
    have h142 := zs_iload (i := 5) C dX4_heard_142 h144
    have h140 := zs_iload (i := 4) C dX4_heard_140 h142
    have h138 := zs_aload (i := 7) C dX4_heard_138 h140
    have h137 := zs_iload_n (i := 1) C dX4_heard_137 rfl h138
    have h136 := zs_aload_n (i := 0) C dX4_heard_136 rfl h137
    have h135 := zs_iret C dX4_heard_135
    have h132 := zs_vI C dX4_heard_132 (m_X4_howManyWedHeard N) zw_491 ⟨Nat.le_of_ble_eq_true rfl, Nat.le_of_ble_eq_true rfl⟩ h135
    have h130 := zs_iload (i := 5) C dX4_heard_130 h132
    have h128 := zs_iload (i := 4) C dX4_heard_128 h130
    have h126 := zs_aload (i := 7) C dX4_heard_126 h128
    have h125 := zs_iload_n (i := 1) C dX4_heard_125 rfl h126
    have h124 := zs_aload_n (i := 0) C dX4_heard_124 rfl h125
    have h123 := zs_iret C dX4_heard_123
    have h120 := zs_vI C dX4_heard_120 (m_X4_tempersHeard N) zw_487 ⟨Nat.le_of_ble_eq_true rfl, Nat.le_of_ble_eq_true rfl⟩ h123
    have h118 := zs_iload (i := 5) C dX4_heard_118 h120
    have h116 := zs_iload (i := 4) C dX4_heard_116 h118
    have h114 := zs_aload (i := 7) C dX4_heard_114 h116
    have h113 := zs_iload_n (i := 1) C dX4_heard_113 rfl h114
    have h112 := zs_aload_n (i := 0) C dX4_heard_112 rfl h113
    have h111 := zs_iret C dX4_heard_111
    have h108 := zs_vI C dX4_heard_108 (m_X4_kindsHeard N) zw_479 ⟨Nat.le_of_ble_eq_true rfl, Nat.le_of_ble_eq_true rfl⟩ h111
    have h106 := zs_iload (i := 5) C dX4_heard_106 h108
    have h104 := zs_iload (i := 4) C dX4_heard_104 h106
    have h102 := zs_aload (i := 7) C dX4_heard_102 h104
    have h101 := zs_iload_n (i := 1) C dX4_heard_101 rfl h102
    have h100 := zs_aload_n (i := 0) C dX4_heard_100 rfl h101
    have h75 := zs_tab (q := zq_I) (cs := [(0, _), (1, _), (2, _)]) (xs := [0, 1, 2]) (tg := (fun x => if x = 0 then 100 else if x = 1 then 112 else if x = 2 then 124 else 0)) (tgt := 136) C dX4_heard_75 (by decide) (by decide) rfl (by decide +kernel) (by decide +kernel) (List.forall_mem_cons.mpr ⟨h100, (List.forall_mem_cons.mpr ⟨h112, (List.forall_mem_cons.mpr ⟨h124, (fun _ h => absurd h List.not_mem_nil)⟩)⟩)⟩) h136
    have h73 := zs_iload (i := 6) C dX4_heard_73 h75
    have h72 := zs_iret C dX4_heard_72
    have h70 := zs_iload (i := 8) C dX4_heard_70 h72
    have h67 := zs_if_eq (tgt := 73) C dX4_heard_67 (by decide) h73 h70
    have h65 := zs_iload (i := 8) C dX4_heard_65 h67
    have h63 := zs_istore (i := 8) C dX4_heard_63 h65
    have h60 := zs_vI C dX4_heard_60 (m_X1_faultOf N) zw_471 ⟨Nat.le_of_ble_eq_true rfl, Nat.le_of_ble_eq_true rfl⟩ h63
    have h58 := zs_iload (i := 5) C dX4_heard_58 h60
    have h56 := zs_iload (i := 4) C dX4_heard_56 h58
    have h55 := zs_iload_n (i := 3) C dX4_heard_55 rfl h56
    have h53 := zs_aload (i := 7) C dX4_heard_53 h55
    have h51 := zs_astore (i := 7) C dX4_heard_51 h53
    have h50 := zs_aldS C dX4_heard_50 h51
    have h49 := zs_iload_n (i := 2) C dX4_heard_49 rfl h50
    have h46 := zs_gR C dX4_heard_46 zf_4_5 zw_150 h49
    have h45 := zs_aload_n (i := 0) C dX4_heard_45 rfl h46
    have h44 := zs_iret C dX4_heard_44
    have h43 := zs_iconst (v := (-1)) C dX4_heard_43 (by decide) h44
    have h40 := zs_if_ne (tgt := 45) C dX4_heard_40 (by decide) h45 h43
    have h37 := zs_sI C dX4_heard_37 (m_X4_within N) zw_174 ⟨Nat.le_of_ble_eq_true rfl, Nat.le_of_ble_eq_true rfl⟩ h40
    have h36 := zs_iconst (v := 3) C dX4_heard_36 (by decide) h37
    have h35 := zs_iconst (v := 0) C dX4_heard_35 (by decide) h36
    have h33 := zs_iload (i := 6) C dX4_heard_33 h35
    have h30 := zs_if_eq (tgt := 43) C dX4_heard_30 (by decide) h43 h33
    have h27 := zs_sI C dX4_heard_27 (m_X4_within N) zw_174 ⟨Nat.le_of_ble_eq_true rfl, Nat.le_of_ble_eq_true rfl⟩ h30
    have h25 := zs_bipush (v := 8) C dX4_heard_25 (by decide) h27
    have h24 := zs_iconst (v := 1) C dX4_heard_24 (by decide) h25
    have h22 := zs_iload (i := 5) C dX4_heard_22 h24
    have h19 := zs_if_eq (tgt := 43) C dX4_heard_19 (by decide) h43 h22
    have h16 := zs_sI C dX4_heard_16 (m_X4_isLane N) zw_468 ⟨Nat.le_of_ble_eq_true rfl, Nat.le_of_ble_eq_true rfl⟩ h19
    have h15 := zs_iload_n (i := 3) C dX4_heard_15 rfl h16
    have h12 := zs_if_eq (tgt := 43) C dX4_heard_12 (by decide) h43 h15
    have h9 := zs_sI C dX4_heard_9 (m_X4_isSheet N) zw_465 ⟨Nat.le_of_ble_eq_true rfl, Nat.le_of_ble_eq_true rfl⟩ h12
    have h8 := zs_iload_n (i := 2) C dX4_heard_8 rfl h9
    have h5 := zs_if_eq (tgt := 43) C dX4_heard_5 (by decide) h43 h8
    have h2 := zs_vI C dX4_heard_2 (m_X4_isCouple N) zw_189 ⟨Nat.le_of_ble_eq_true rfl, Nat.le_of_ble_eq_true rfl⟩ h5
    have h1 := zs_iload_n (i := 1) C dX4_heard_1 rfl h2
    have h0 := zs_aload_n (i := 0) C dX4_heard_0 rfl h1
    exact h0
  case hG =>
    intro as μ r h
    obtain ⟨x0, x1, x2, x3, x4, x5, x6, rfl, h⟩ := g_X4_heard_i h
    exact ⟨Nat.le_of_ble_eq_true rfl, h⟩
theorem m_X4_heard (N : Nat) : zk_MV yX4_heard cX4_heard 9 (some .int) ({ frames := 6, cells := 0, slots := 0, locals := 144 } : Room) zq_I (g_X4_heard N) 6 4 := ⟨c_X4_heard N, zw_464, zw_462, zw_463, zw_26, rfl, rfl, by decide +kernel, by decide, ⟨TX4, 8, rfl⟩, fun as μ r h => by obtain ⟨x0, x1, x2, x3, x4, x5, x6, rfl, -⟩ := g_X4_heard_i h; exact ⟨_, _, rfl⟩⟩
-- LongestWed.film(IIIII)I
def f_X4_film_L77 (N : Nat) : Nat → Nat → Int32 → Int32 → Int32 → Nat → Int32 → ZM → Option (Int32 × ZM)
  | 0, _, _, _, _, _, _, _ => none
  | n + 1, x0, x1, x2, x5, x6, x8, μ =>
    if x2 ≤ x8 then
      some (x2, μ)
    else
      (f_X3_passYear N (x0 + 98) μ).bind fun r1 =>
      if zk_o x1 7 = true then none else
      (f_X1_put N x6 (x5 + x8) (Int32.toInt64 (r1.1 ((x0 + 98) + 4) (Int32.toNatClampNeg x1))) r1).bind fun r2 =>
      f_X4_film_L77 N n x0 x1 x2 x5 x6 (x8 + 1) r2
def k_X4_film_L77 (N n : Nat) : ZK (Int32 × ZM) := fun L st μ => match L, st with
  | [some (.inr (.inr (4, x0))), some (.inl x1), some (.inl x2), _, _, some (.inl x5), some (.inr (.inr (1, x6))), _, some (.inl x8)], [] => f_X4_film_L77 N n x0 x1 x2 x5 x6 x8 μ
  | _, _ => none
theorem k_X4_film_L77_i {N : Nat} {n : Nat} {L : ZL} {st : List ZV} {μ : ZM} {r : Int32 × ZM} (h : k_X4_film_L77 N n L st μ = some r) : ∃ (x0 : Nat) (x1 : Int32) (x2 : Int32) (x5 : Int32) (x6 : Nat) (x8 : Int32) (u3 : Option ZV) (u4 : Option ZV) (u7 : Option ZV), L = [some (.inr (.inr (4, x0))), some (.inl x1), some (.inl x2), u3, u4, some (.inl x5), some (.inr (.inr (1, x6))), u7, some (.inl x8)] ∧ st = [] ∧ f_X4_film_L77 N n x0 x1 x2 x5 x6 x8 μ = some r := by
  unfold k_X4_film_L77 at h
  split at h
  · exact ⟨_, _, _, _, _, _, _, _, _, rfl, rfl, h⟩
  · cases h
set_option maxRecDepth 100000 in
theorem s_X4_film_L77 (N : Nat) {X : ZX} {E : ZE} (C : zk_X X E RX4 cX4_film 9 (some .int) ({ frames := 3, cells := 0, slots := 0, locals := 68 } : Room)) : ∀ n, zk_S X E 9 zq_I 77 (k_X4_film_L77 N n) := by
  intro n
  induction n with
  | zero =>
    intro H locs ls L st μ r h hL hst hW hS
    obtain ⟨x0, x1, x2, x5, x6, x8, u3, u4, u7, rfl, rfl, h⟩ := k_X4_film_L77_i h
    exact nomatch (show none = some r from h)
  | succ n ih =>
    have h117 := zs_iret C dX4_film_117
    have h116 := zs_iload_n (i := 2) C dX4_film_116 rfl h117
    have h113 := zs_goto (tgt := 77) C dX4_film_113 (by decide) ih
    have h110 := zs_iinc (n := 1) C dX4_film_110 (by decide) h113
    have h107 := zs_vV C dX4_film_107 (m_X1_put N) zw_507 ⟨Nat.le_of_ble_eq_true rfl, Nat.le_of_ble_eq_true rfl⟩ h110
    have h106 := zs_i2l C dX4_film_106 h107
    have h105 := zs_iald (n := 7) C dX4_film_105 (by decide) h106
    have h104 := zs_iload_n (i := 1) C dX4_film_104 rfl h105
    have h101 := zs_gR C dX4_film_101 zf_3_3 zw_56 h104
    have h98 := zs_gR C dX4_film_98 zf_4_6 zw_151 h101
    have h97 := zs_aload_n (i := 0) C dX4_film_97 rfl h98
    have h96 := zs_iadd C dX4_film_96 h97
    have h94 := zs_iload (i := 8) C dX4_film_94 h96
    have h92 := zs_iload (i := 5) C dX4_film_92 h94
    have h90 := zs_aload (i := 6) C dX4_film_90 h92
    have h87 := zs_vV C dX4_film_87 (m_X3_passYear N) zw_298 ⟨Nat.le_of_ble_eq_true rfl, Nat.le_of_ble_eq_true rfl⟩ h90
    have h84 := zs_gR C dX4_film_84 zf_4_6 zw_151 h87
    have h83 := zs_aload_n (i := 0) C dX4_film_83 rfl h84
    have h80 := zs_icmp_ge (tgt := 116) C dX4_film_80 (by decide) h116 h83
    have h79 := zs_iload_n (i := 2) C dX4_film_79 rfl h80
    have h77 := zs_iload (i := 8) C dX4_film_77 h79
    intro H locs ls L st μ r h hL hst hW hS
    obtain ⟨x0, x1, x2, x5, x6, x8, u3, u4, u7, rfl, rfl, h⟩ := k_X4_film_L77_i h
    exact h77 H locs ls [some (.inr (.inr (4, x0))), some (.inl x1), some (.inl x2), none, none, some (.inl x5), some (.inr (.inr (1, x6))), none, some (.inl x8)] [] μ r h (hL.less ⟨rfl, rfl, rfl, rfl, rfl, rfl, trivial⟩) hst hW hS
def f_X4_film (N : Nat) (x0 : Nat) (x1 : Int32) (x2 : Int32) (x3 : Int32) (x4 : Int32) (x5 : Int32) (μ : ZM) : Option (Int32 × ZM) :=
  (f_X4_isCouple N x0 x1 μ).bind fun r1 =>
  if r1.1 = 0 then
    some ((-1), r1.2)
  else
    (f_X4_within N x2 1 24 r1.2).bind fun r2 =>
    if r2.1 = 0 then
      some ((-1), r2.2)
    else
      (f_X4_isSheet N x3 r2.2).bind fun r3 =>
      if r3.1 = 0 then
        some ((-1), r3.2)
      else
        (f_X4_isLane N x4 r3.2).bind fun r4 =>
        if ¬ r4.1 = 0 then
          if zk_o x3 4 = true then none else
          (f_X1_faultOf N ((x0 + 97) + 6 + 2 * Int32.toNatClampNeg x3) x4 x5 x2 r4.2).bind fun r5 =>
          if r5.1 = 0 then
            (f_X3_become N (x0 + 98) (x0 + 1) r5.2).bind fun r6 =>
            f_X4_film_L77 N N x0 x1 x2 x5 ((x0 + 97) + 6 + 2 * Int32.toNatClampNeg x3) 0 r6
          else
            some (r5.1, r5.2)
        else
          some ((-1), r4.2)
def g_X4_film (N : Nat) (as : List ZV) (μ : ZM) : Option (Int32 × ZM) := match as with
  | [.inr (.inr (4, x0)), .inl x1, .inl x2, .inl x3, .inl x4, .inl x5] => f_X4_film N x0 x1 x2 x3 x4 x5 μ
  | _ => none
theorem g_X4_film_i {N : Nat} {as : List ZV} {μ : ZM} {r : Int32 × ZM} (h : g_X4_film N as μ = some r) : ∃ (x0 : Nat) (x1 : Int32) (x2 : Int32) (x3 : Int32) (x4 : Int32) (x5 : Int32), as = [.inr (.inr (4, x0)), .inl x1, .inl x2, .inl x3, .inl x4, .inl x5] ∧ f_X4_film N x0 x1 x2 x3 x4 x5 μ = some r := by
  unfold g_X4_film at h
  split at h
  · exact ⟨_, _, _, _, _, _, rfl, h⟩
  · cases h
set_option maxRecDepth 100000 in
theorem c_X4_film (N : Nat) : zk_C yX4_film cX4_film 9 (some .int) ({ frames := 3, cells := 0, slots := 0, locals := 68 } : Room) zq_I (g_X4_film N) := by
  refine zk_met ?κ (by decide +kernel) ?hG ?body
  case body =>
    intro X E C
    have C : zk_X X E RX4 cX4_film 9 (some .int) ({ frames := 3, cells := 0, slots := 0, locals := 68 } : Room) := C
    have e77 := s_X4_film_L77 N C N
    have h75 := zs_istore (i := 8) C dX4_film_75 e77
    have h74 := zs_iconst (v := 0) C dX4_film_74 (by decide) h75
    have h71 := zs_vV C dX4_film_71 (m_X3_become N) zw_269 ⟨Nat.le_of_ble_eq_true rfl, Nat.le_of_ble_eq_true rfl⟩ h74
    have h68 := zs_gR C dX4_film_68 zf_4_0 zw_145 h71
    have h67 := zs_aload_n (i := 0) C dX4_film_67 rfl h68
    have h64 := zs_gR C dX4_film_64 zf_4_6 zw_151 h67
    have h63 := zs_aload_n (i := 0) C dX4_film_63 rfl h64
    have h62 := zs_iret C dX4_film_62
    have h60 := zs_iload (i := 7) C dX4_film_60 h62
    have h57 := zs_if_eq (tgt := 63) C dX4_film_57 (by decide) h63 h60
    have h55 := zs_iload (i := 7) C dX4_film_55 h57
    have h53 := zs_istore (i := 7) C dX4_film_53 h55
    have h50 := zs_vI C dX4_film_50 (m_X1_faultOf N) zw_471 ⟨Nat.le_of_ble_eq_true rfl, Nat.le_of_ble_eq_true rfl⟩ h53
    have h49 := zs_iload_n (i := 2) C dX4_film_49 rfl h50
    have h47 := zs_iload (i := 5) C dX4_film_47 h49
    have h45 := zs_iload (i := 4) C dX4_film_45 h47
    have h43 := zs_aload (i := 6) C dX4_film_43 h45
    have h41 := zs_astore (i := 6) C dX4_film_41 h43
    have h40 := zs_aldS C dX4_film_40 h41
    have h39 := zs_iload_n (i := 3) C dX4_film_39 rfl h40
    have h36 := zs_gR C dX4_film_36 zf_4_5 zw_150 h39
    have h35 := zs_aload_n (i := 0) C dX4_film_35 rfl h36
    have h34 := zs_iret C dX4_film_34
    have h33 := zs_iconst (v := (-1)) C dX4_film_33 (by decide) h34
    have h30 := zs_if_ne (tgt := 35) C dX4_film_30 (by decide) h35 h33
    have h27 := zs_sI C dX4_film_27 (m_X4_isLane N) zw_468 ⟨Nat.le_of_ble_eq_true rfl, Nat.le_of_ble_eq_true rfl⟩ h30
    have h25 := zs_iload (i := 4) C dX4_film_25 h27
    have h22 := zs_if_eq (tgt := 33) C dX4_film_22 (by decide) h33 h25
    have h19 := zs_sI C dX4_film_19 (m_X4_isSheet N) zw_465 ⟨Nat.le_of_ble_eq_true rfl, Nat.le_of_ble_eq_true rfl⟩ h22
    have h18 := zs_iload_n (i := 3) C dX4_film_18 rfl h19
    have h15 := zs_if_eq (tgt := 33) C dX4_film_15 (by decide) h33 h18
    have h12 := zs_sI C dX4_film_12 (m_X4_within N) zw_174 ⟨Nat.le_of_ble_eq_true rfl, Nat.le_of_ble_eq_true rfl⟩ h15
    have h10 := zs_bipush (v := 24) C dX4_film_10 (by decide) h12
    have h9 := zs_iconst (v := 1) C dX4_film_9 (by decide) h10
    have h8 := zs_iload_n (i := 2) C dX4_film_8 rfl h9
    have h5 := zs_if_eq (tgt := 33) C dX4_film_5 (by decide) h33 h8
    have h2 := zs_vI C dX4_film_2 (m_X4_isCouple N) zw_189 ⟨Nat.le_of_ble_eq_true rfl, Nat.le_of_ble_eq_true rfl⟩ h5
    have h1 := zs_iload_n (i := 1) C dX4_film_1 rfl h2
    have h0 := zs_aload_n (i := 0) C dX4_film_0 rfl h1
    exact h0
  case hG =>
    intro as μ r h
    obtain ⟨x0, x1, x2, x3, x4, x5, rfl, h⟩ := g_X4_film_i h
    exact ⟨Nat.le_of_ble_eq_true rfl, h⟩
theorem m_X4_film (N : Nat) : zk_MV yX4_film cX4_film 9 (some .int) ({ frames := 3, cells := 0, slots := 0, locals := 68 } : Room) zq_I (g_X4_film N) 5 4 := ⟨c_X4_film N, zw_506, zw_504, zw_505, zw_26, rfl, rfl, by decide +kernel, by decide, ⟨TX4, 8, rfl⟩, fun as μ r h => by obtain ⟨x0, x1, x2, x3, x4, x5, rfl, -⟩ := g_X4_film_i h; exact ⟨_, _, rfl⟩⟩
-- LongestWed.sheet(III)I
def f_X4_sheet (N : Nat) (x0 : Nat) (x1 : Int32) (x2 : Int32) (x3 : Int32) (μ : ZM) : Option (Int32 × ZM) :=
  (f_X4_isSheet N x1 μ).bind fun r1 =>
  if r1.1 = 0 then
    some ((-1), r1.2)
  else
    (f_X4_isLane N x2 r1.2).bind fun r2 =>
    if r2.1 = 0 then
      some ((-1), r2.2)
    else
      if x3 ≤ (24 : Int32) then
        if 0 ≤ x3 then
          if zk_o x1 4 = true then none else
          (f_X1_renew N ((x0 + 97) + 6 + 2 * Int32.toNatClampNeg x1) x2 x3 r2.2).bind fun r3 =>
          some (x3, r3)
        else
          some ((-14), r2.2)
      else
        some ((-1), r2.2)
def g_X4_sheet (N : Nat) (as : List ZV) (μ : ZM) : Option (Int32 × ZM) := match as with
  | [.inr (.inr (4, x0)), .inl x1, .inl x2, .inl x3] => f_X4_sheet N x0 x1 x2 x3 μ
  | _ => none
theorem g_X4_sheet_i {N : Nat} {as : List ZV} {μ : ZM} {r : Int32 × ZM} (h : g_X4_sheet N as μ = some r) : ∃ (x0 : Nat) (x1 : Int32) (x2 : Int32) (x3 : Int32), as = [.inr (.inr (4, x0)), .inl x1, .inl x2, .inl x3] ∧ f_X4_sheet N x0 x1 x2 x3 μ = some r := by
  unfold g_X4_sheet at h
  split at h
  · exact ⟨_, _, _, _, rfl, h⟩
  · cases h
set_option maxRecDepth 100000 in
theorem c_X4_sheet (N : Nat) : zk_C yX4_sheet cX4_sheet 4 (some .int) ({ frames := 1, cells := 0, slots := 0, locals := 23 } : Room) zq_I (g_X4_sheet N) := by
  refine zk_met ?κ (by decide +kernel) ?hG ?body
  case body =>
    intro X E C
    have C : zk_X X E RX4 cX4_sheet 4 (some .int) ({ frames := 1, cells := 0, slots := 0, locals := 23 } : Room) := C
    have h41 := zs_iret C dX4_sheet_41
    have h40 := zs_iload_n (i := 3) C dX4_sheet_40 rfl h41
    have h37 := zs_vV C dX4_sheet_37 (m_X1_renew N) zw_519 ⟨Nat.le_of_ble_eq_true rfl, Nat.le_of_ble_eq_true rfl⟩ h40
    have h36 := zs_iload_n (i := 3) C dX4_sheet_36 rfl h37
    have h35 := zs_iload_n (i := 2) C dX4_sheet_35 rfl h36
    have h34 := zs_aldS C dX4_sheet_34 h35
    have h33 := zs_iload_n (i := 1) C dX4_sheet_33 rfl h34
    have h30 := zs_gR C dX4_sheet_30 zf_4_5 zw_150 h33
    have h29 := zs_aload_n (i := 0) C dX4_sheet_29 rfl h30
    have h28 := zs_iret C dX4_sheet_28
    have h26 := zs_bipush (v := (-14)) C dX4_sheet_26 (by decide) h28
    have h23 := zs_if_ge (tgt := 29) C dX4_sheet_23 (by decide) h29 h26
    have h22 := zs_iload_n (i := 3) C dX4_sheet_22 rfl h23
    have h21 := zs_iret C dX4_sheet_21
    have h20 := zs_iconst (v := (-1)) C dX4_sheet_20 (by decide) h21
    have h17 := zs_icmp_le (tgt := 22) C dX4_sheet_17 (by decide) h22 h20
    have h15 := zs_bipush (v := 24) C dX4_sheet_15 (by decide) h17
    have h14 := zs_iload_n (i := 3) C dX4_sheet_14 rfl h15
    have h11 := zs_if_eq (tgt := 20) C dX4_sheet_11 (by decide) h20 h14
    have h8 := zs_sI C dX4_sheet_8 (m_X4_isLane N) zw_468 ⟨Nat.le_of_ble_eq_true rfl, Nat.le_of_ble_eq_true rfl⟩ h11
    have h7 := zs_iload_n (i := 2) C dX4_sheet_7 rfl h8
    have h4 := zs_if_eq (tgt := 20) C dX4_sheet_4 (by decide) h20 h7
    have h1 := zs_sI C dX4_sheet_1 (m_X4_isSheet N) zw_465 ⟨Nat.le_of_ble_eq_true rfl, Nat.le_of_ble_eq_true rfl⟩ h4
    have h0 := zs_iload_n (i := 1) C dX4_sheet_0 rfl h1
    exact h0
  case hG =>
    intro as μ r h
    obtain ⟨x0, x1, x2, x3, rfl, h⟩ := g_X4_sheet_i h
    exact ⟨Nat.le_of_ble_eq_true rfl, h⟩
theorem m_X4_sheet (N : Nat) : zk_MV yX4_sheet cX4_sheet 4 (some .int) ({ frames := 1, cells := 0, slots := 0, locals := 23 } : Room) zq_I (g_X4_sheet N) 3 4 := ⟨c_X4_sheet N, zw_518, zw_516, zw_517, zw_26, rfl, rfl, by decide +kernel, by decide, ⟨TX4, 8, rfl⟩, fun as μ r h => by obtain ⟨x0, x1, x2, x3, rfl, -⟩ := g_X4_sheet_i h; exact ⟨_, _, rfl⟩⟩
-- LongestWed.drop(I)I
def f_X4_drop (N : Nat) (x0 : Nat) (x1 : Int32) (μ : ZM) : Option (Int32 × ZM) :=
  (f_X4_isSheet N x1 μ).bind fun r1 =>
  if ¬ r1.1 = 0 then
    if zk_o x1 4 = true then none else
    if ¬ (r1.2.1 ((x0 + 97) + 6 + 2 * Int32.toNatClampNeg x1) 1) = (-1 : Int32) then
      let μ2 := zk_si r1.2 ((x0 + 97) + 6 + 2 * Int32.toNatClampNeg x1) 1 (-1)
      some ((μ2.1 ((x0 + 97) + 6 + 2 * Int32.toNatClampNeg x1) 2), μ2)
    else
      some ((-11), r1.2)
  else
    some ((-1), r1.2)
def g_X4_drop (N : Nat) (as : List ZV) (μ : ZM) : Option (Int32 × ZM) := match as with
  | [.inr (.inr (4, x0)), .inl x1] => f_X4_drop N x0 x1 μ
  | _ => none
theorem g_X4_drop_i {N : Nat} {as : List ZV} {μ : ZM} {r : Int32 × ZM} (h : g_X4_drop N as μ = some r) : ∃ (x0 : Nat) (x1 : Int32), as = [.inr (.inr (4, x0)), .inl x1] ∧ f_X4_drop N x0 x1 μ = some r := by
  unfold g_X4_drop at h
  split at h
  · exact ⟨_, _, rfl, h⟩
  · cases h
set_option maxRecDepth 100000 in
theorem c_X4_drop (N : Nat) : zk_C yX4_drop cX4_drop 3 (some .int) ({ frames := 1, cells := 0, slots := 0, locals := 20 } : Room) zq_I (g_X4_drop N) := by
  refine zk_met ?κ (by decide +kernel) ?hG ?body
  case body =>
    intro X E C
    have C : zk_X X E RX4 cX4_drop 3 (some .int) ({ frames := 1, cells := 0, slots := 0, locals := 20 } : Room) := C
    have h36 := zs_iret C dX4_drop_36
    have h33 := zs_gI C dX4_drop_33 zf_1_2 zw_136 h36
    have h32 := zs_aload_n (i := 2) C dX4_drop_32 rfl h33
    have h29 := zs_pI C dX4_drop_29 zf_1_1 zw_134 rfl (by decide +kernel) h32
    have h28 := zs_iconst (v := (-1)) C dX4_drop_28 (by decide) h29
    have h27 := zs_aload_n (i := 2) C dX4_drop_27 rfl h28
    have h26 := zs_iret C dX4_drop_26
    have h24 := zs_bipush (v := (-11)) C dX4_drop_24 (by decide) h26
    have h21 := zs_icmp_ne (tgt := 27) C dX4_drop_21 (by decide) h27 h24
    have h20 := zs_iconst (v := (-1)) C dX4_drop_20 (by decide) h21
    have h17 := zs_gI C dX4_drop_17 zf_1_1 zw_134 h20
    have h16 := zs_aload_n (i := 2) C dX4_drop_16 rfl h17
    have h15 := zs_astore_n (i := 2) C dX4_drop_15 rfl h16
    have h14 := zs_aldS C dX4_drop_14 h15
    have h13 := zs_iload_n (i := 1) C dX4_drop_13 rfl h14
    have h10 := zs_gR C dX4_drop_10 zf_4_5 zw_150 h13
    have h9 := zs_aload_n (i := 0) C dX4_drop_9 rfl h10
    have h8 := zs_iret C dX4_drop_8
    have h7 := zs_iconst (v := (-1)) C dX4_drop_7 (by decide) h8
    have h4 := zs_if_ne (tgt := 9) C dX4_drop_4 (by decide) h9 h7
    have h1 := zs_sI C dX4_drop_1 (m_X4_isSheet N) zw_465 ⟨Nat.le_of_ble_eq_true rfl, Nat.le_of_ble_eq_true rfl⟩ h4
    have h0 := zs_iload_n (i := 1) C dX4_drop_0 rfl h1
    exact h0
  case hG =>
    intro as μ r h
    obtain ⟨x0, x1, rfl, h⟩ := g_X4_drop_i h
    exact ⟨Nat.le_of_ble_eq_true rfl, h⟩
theorem m_X4_drop (N : Nat) : zk_MV yX4_drop cX4_drop 3 (some .int) ({ frames := 1, cells := 0, slots := 0, locals := 20 } : Room) zq_I (g_X4_drop N) 1 4 := ⟨c_X4_drop N, zw_526, zw_524, zw_525, zw_26, rfl, rfl, by decide +kernel, by decide, ⟨TX4, 8, rfl⟩, fun as μ r h => by obtain ⟨x0, x1, rfl, -⟩ := g_X4_drop_i h; exact ⟨_, _, rfl⟩⟩
-- LongestWed.item(IIIJ)I
def f_X4_item (N : Nat) (x0 : Nat) (x1 : Int32) (x2 : Int32) (x3 : Int32) (x4 : Int64) (μ : ZM) : Option (Int32 × ZM) :=
  (f_X4_isSheet N x1 μ).bind fun r1 =>
  if r1.1 = 0 then
    some ((-1), r1.2)
  else
    (f_X4_isLane N x2 r1.2).bind fun r2 =>
    if ¬ r2.1 = 0 then
      if zk_o x1 4 = true then none else
      (f_X1_faultOf N ((x0 + 97) + 6 + 2 * Int32.toNatClampNeg x1) x2 x3 1 r2.2).bind fun r3 =>
      if r3.1 = 0 then
        (f_X1_put N ((x0 + 97) + 6 + 2 * Int32.toNatClampNeg x1) x3 x4 r3.2).bind fun r4 =>
        some (1, r4)
      else
        some (r3.1, r3.2)
    else
      some ((-1), r2.2)
def g_X4_item (N : Nat) (as : List ZV) (μ : ZM) : Option (Int32 × ZM) := match as with
  | [.inr (.inr (4, x0)), .inl x1, .inl x2, .inl x3, .inr (.inl x4)] => f_X4_item N x0 x1 x2 x3 x4 μ
  | _ => none
theorem g_X4_item_i {N : Nat} {as : List ZV} {μ : ZM} {r : Int32 × ZM} (h : g_X4_item N as μ = some r) : ∃ (x0 : Nat) (x1 : Int32) (x2 : Int32) (x3 : Int32) (x4 : Int64), as = [.inr (.inr (4, x0)), .inl x1, .inl x2, .inl x3, .inr (.inl x4)] ∧ f_X4_item N x0 x1 x2 x3 x4 μ = some r := by
  unfold g_X4_item at h
  split at h
  · exact ⟨_, _, _, _, _, rfl, h⟩
  · cases h
set_option maxRecDepth 100000 in
theorem c_X4_item (N : Nat) : zk_C yX4_item cX4_item 8 (some .int) ({ frames := 2, cells := 0, slots := 0, locals := 45 } : Room) zq_I (g_X4_item N) := by
  refine zk_met ?κ (by decide +kernel) ?hG ?body
  case body =>
    intro X E C
    have C : zk_X X E RX4 cX4_item 8 (some .int) ({ frames := 2, cells := 0, slots := 0, locals := 45 } : Room) := C
    have h51 := zs_iret C dX4_item_51
    have h50 := zs_iconst (v := 1) C dX4_item_50 (by decide) h51
    have h47 := zs_vV C dX4_item_47 (m_X1_put N) zw_507 ⟨Nat.le_of_ble_eq_true rfl, Nat.le_of_ble_eq_true rfl⟩ h50
    have h45 := zs_lload (i := 4) C dX4_item_45 h47
    have h44 := zs_iload_n (i := 3) C dX4_item_44 rfl h45
    have h42 := zs_aload (i := 6) C dX4_item_42 h44
    have h41 := zs_iret C dX4_item_41
    have h39 := zs_iload (i := 7) C dX4_item_39 h41
    have h36 := zs_if_eq (tgt := 42) C dX4_item_36 (by decide) h42 h39
    have h34 := zs_iload (i := 7) C dX4_item_34 h36
    have h32 := zs_istore (i := 7) C dX4_item_32 h34
    have h29 := zs_vI C dX4_item_29 (m_X1_faultOf N) zw_471 ⟨Nat.le_of_ble_eq_true rfl, Nat.le_of_ble_eq_true rfl⟩ h32
    have h28 := zs_iconst (v := 1) C dX4_item_28 (by decide) h29
    have h27 := zs_iload_n (i := 3) C dX4_item_27 rfl h28
    have h26 := zs_iload_n (i := 2) C dX4_item_26 rfl h27
    have h24 := zs_aload (i := 6) C dX4_item_24 h26
    have h22 := zs_astore (i := 6) C dX4_item_22 h24
    have h21 := zs_aldS C dX4_item_21 h22
    have h20 := zs_iload_n (i := 1) C dX4_item_20 rfl h21
    have h17 := zs_gR C dX4_item_17 zf_4_5 zw_150 h20
    have h16 := zs_aload_n (i := 0) C dX4_item_16 rfl h17
    have h15 := zs_iret C dX4_item_15
    have h14 := zs_iconst (v := (-1)) C dX4_item_14 (by decide) h15
    have h11 := zs_if_ne (tgt := 16) C dX4_item_11 (by decide) h16 h14
    have h8 := zs_sI C dX4_item_8 (m_X4_isLane N) zw_468 ⟨Nat.le_of_ble_eq_true rfl, Nat.le_of_ble_eq_true rfl⟩ h11
    have h7 := zs_iload_n (i := 2) C dX4_item_7 rfl h8
    have h4 := zs_if_eq (tgt := 14) C dX4_item_4 (by decide) h14 h7
    have h1 := zs_sI C dX4_item_1 (m_X4_isSheet N) zw_465 ⟨Nat.le_of_ble_eq_true rfl, Nat.le_of_ble_eq_true rfl⟩ h4
    have h0 := zs_iload_n (i := 1) C dX4_item_0 rfl h1
    exact h0
  case hG =>
    intro as μ r h
    obtain ⟨x0, x1, x2, x3, x4, rfl, h⟩ := g_X4_item_i h
    exact ⟨Nat.le_of_ble_eq_true rfl, h⟩
theorem m_X4_item (N : Nat) : zk_MV yX4_item cX4_item 8 (some .int) ({ frames := 2, cells := 0, slots := 0, locals := 45 } : Room) zq_I (g_X4_item N) 4 4 := ⟨c_X4_item N, zw_530, zw_528, zw_529, zw_26, rfl, rfl, by decide +kernel, by decide, ⟨TX4, 8, rfl⟩, fun as μ r h => by obtain ⟨x0, x1, x2, x3, x4, rfl, -⟩ := g_X4_item_i h; exact ⟨_, _, rfl⟩⟩
-- LongestWed.copy(IIIII)I
def f_X4_copy (N : Nat) (x0 : Nat) (x1 : Int32) (x2 : Int32) (x3 : Int32) (x4 : Int32) (x5 : Int32) (μ : ZM) : Option (Int32 × ZM) :=
  (f_X4_isSheet N x1 μ).bind fun r1 =>
  if r1.1 = 0 then
    some ((-1), r1.2)
  else
    (f_X4_isSheet N x3 r1.2).bind fun r2 =>
    if ¬ r2.1 = 0 then
      if zk_o x1 4 = true then none else
      if zk_o x3 4 = true then none else
      if (r2.2.1 ((x0 + 97) + 6 + 2 * Int32.toNatClampNeg x1) 1) = (-1 : Int32) then
        some ((-11), r2.2)
      else
        if ¬ (r2.2.1 ((x0 + 97) + 6 + 2 * Int32.toNatClampNeg x3) 1) = (-1 : Int32) then
          if (r2.2.1 ((x0 + 97) + 6 + 2 * Int32.toNatClampNeg x1) 1) = (r2.2.1 ((x0 + 97) + 6 + 2 * Int32.toNatClampNeg x3) 1) then
            (f_X1_reaches N ((x0 + 97) + 6 + 2 * Int32.toNatClampNeg x1) x2 x5 r2.2).bind fun r3 =>
            if r3.1 = 0 then
              some ((-13), r3.2)
            else
              (f_X1_reaches N ((x0 + 97) + 6 + 2 * Int32.toNatClampNeg x3) x4 x5 r3.2).bind fun r4 =>
              if ¬ r4.1 = 0 then
                if ¬ x2 < 0 ∧ ¬ x4 < 0 ∧ ¬ x5 < 0 ∧ Int32.toNatClampNeg x2 + Int32.toNatClampNeg x5 ≤ 24 ∧ Int32.toNatClampNeg x4 + Int32.toNatClampNeg x5 ≤ 24 then
                let μ5 := zk_cj r4.2 (((x0 + 97) + 6 + 2 * Int32.toNatClampNeg x1) + 1) (((x0 + 97) + 6 + 2 * Int32.toNatClampNeg x3) + 1) (Int32.toNatClampNeg x2) (Int32.toNatClampNeg x4) (Int32.toNatClampNeg x5)
                some (x5, μ5)
                else none
              else
                some ((-13), r4.2)
          else
            some ((-12), r2.2)
        else
          some ((-11), r2.2)
    else
      some ((-1), r2.2)
def g_X4_copy (N : Nat) (as : List ZV) (μ : ZM) : Option (Int32 × ZM) := match as with
  | [.inr (.inr (4, x0)), .inl x1, .inl x2, .inl x3, .inl x4, .inl x5] => f_X4_copy N x0 x1 x2 x3 x4 x5 μ
  | _ => none
theorem g_X4_copy_i {N : Nat} {as : List ZV} {μ : ZM} {r : Int32 × ZM} (h : g_X4_copy N as μ = some r) : ∃ (x0 : Nat) (x1 : Int32) (x2 : Int32) (x3 : Int32) (x4 : Int32) (x5 : Int32), as = [.inr (.inr (4, x0)), .inl x1, .inl x2, .inl x3, .inl x4, .inl x5] ∧ f_X4_copy N x0 x1 x2 x3 x4 x5 μ = some r := by
  unfold g_X4_copy at h
  split at h
  · exact ⟨_, _, _, _, _, _, rfl, h⟩
  · cases h
set_option maxRecDepth 100000 in
theorem c_X4_copy (N : Nat) : zk_C yX4_copy cX4_copy 8 (some .int) ({ frames := 1, cells := 0, slots := 0, locals := 26 } : Room) zq_I (g_X4_copy N) := by
  refine zk_met ?κ (by decide +kernel) ?hG ?body
  case body =>
    intro X E C
    have C : zk_X X E RX4 cX4_copy 8 (some .int) ({ frames := 1, cells := 0, slots := 0, locals := 26 } : Room) := C
    have h115 := zs_iret C dX4_copy_115
    have h113 := zs_iload (i := 5) C dX4_copy_113 h115
    have h110 := zs_cpJ (n0 := 24) (n1 := 24) C dX4_copy_110 (by decide) (by decide) zw_536 zw_275 zw_274 zw_32 (Nat.le_of_ble_eq_true rfl) (Nat.le_of_ble_eq_true rfl) h113
    have h108 := zs_iload (i := 5) C dX4_copy_108 h110
    have h106 := zs_iload (i := 4) C dX4_copy_106 h108
    have h103 := zs_gR C dX4_copy_103 zf_1_0 zw_132 h106
    have h101 := zs_aload (i := 7) C dX4_copy_101 h103
    have h100 := zs_iload_n (i := 2) C dX4_copy_100 rfl h101
    have h97 := zs_gR C dX4_copy_97 zf_1_0 zw_132 h100
    have h95 := zs_aload (i := 6) C dX4_copy_95 h97
    have h94 := zs_iret C dX4_copy_94
    have h92 := zs_bipush (v := (-13)) C dX4_copy_92 (by decide) h94
    have h89 := zs_if_ne (tgt := 95) C dX4_copy_89 (by decide) h95 h92
    have h86 := zs_vI C dX4_copy_86 (m_X1_reaches N) zw_535 ⟨Nat.le_of_ble_eq_true rfl, Nat.le_of_ble_eq_true rfl⟩ h89
    have h84 := zs_iload (i := 5) C dX4_copy_84 h86
    have h82 := zs_iload (i := 4) C dX4_copy_82 h84
    have h80 := zs_aload (i := 7) C dX4_copy_80 h82
    have h77 := zs_if_eq (tgt := 92) C dX4_copy_77 (by decide) h92 h80
    have h74 := zs_vI C dX4_copy_74 (m_X1_reaches N) zw_535 ⟨Nat.le_of_ble_eq_true rfl, Nat.le_of_ble_eq_true rfl⟩ h77
    have h72 := zs_iload (i := 5) C dX4_copy_72 h74
    have h71 := zs_iload_n (i := 2) C dX4_copy_71 rfl h72
    have h69 := zs_aload (i := 6) C dX4_copy_69 h71
    have h68 := zs_iret C dX4_copy_68
    have h66 := zs_bipush (v := (-12)) C dX4_copy_66 (by decide) h68
    have h63 := zs_icmp_eq (tgt := 69) C dX4_copy_63 (by decide) h69 h66
    have h60 := zs_gI C dX4_copy_60 zf_1_1 zw_134 h63
    have h58 := zs_aload (i := 7) C dX4_copy_58 h60
    have h55 := zs_gI C dX4_copy_55 zf_1_1 zw_134 h58
    have h53 := zs_aload (i := 6) C dX4_copy_53 h55
    have h52 := zs_iret C dX4_copy_52
    have h50 := zs_bipush (v := (-11)) C dX4_copy_50 (by decide) h52
    have h47 := zs_icmp_ne (tgt := 53) C dX4_copy_47 (by decide) h53 h50
    have h46 := zs_iconst (v := (-1)) C dX4_copy_46 (by decide) h47
    have h43 := zs_gI C dX4_copy_43 zf_1_1 zw_134 h46
    have h41 := zs_aload (i := 7) C dX4_copy_41 h43
    have h38 := zs_icmp_eq (tgt := 50) C dX4_copy_38 (by decide) h50 h41
    have h37 := zs_iconst (v := (-1)) C dX4_copy_37 (by decide) h38
    have h34 := zs_gI C dX4_copy_34 zf_1_1 zw_134 h37
    have h32 := zs_aload (i := 6) C dX4_copy_32 h34
    have h30 := zs_astore (i := 7) C dX4_copy_30 h32
    have h29 := zs_aldS C dX4_copy_29 h30
    have h28 := zs_iload_n (i := 3) C dX4_copy_28 rfl h29
    have h25 := zs_gR C dX4_copy_25 zf_4_5 zw_150 h28
    have h24 := zs_aload_n (i := 0) C dX4_copy_24 rfl h25
    have h22 := zs_astore (i := 6) C dX4_copy_22 h24
    have h21 := zs_aldS C dX4_copy_21 h22
    have h20 := zs_iload_n (i := 1) C dX4_copy_20 rfl h21
    have h17 := zs_gR C dX4_copy_17 zf_4_5 zw_150 h20
    have h16 := zs_aload_n (i := 0) C dX4_copy_16 rfl h17
    have h15 := zs_iret C dX4_copy_15
    have h14 := zs_iconst (v := (-1)) C dX4_copy_14 (by decide) h15
    have h11 := zs_if_ne (tgt := 16) C dX4_copy_11 (by decide) h16 h14
    have h8 := zs_sI C dX4_copy_8 (m_X4_isSheet N) zw_465 ⟨Nat.le_of_ble_eq_true rfl, Nat.le_of_ble_eq_true rfl⟩ h11
    have h7 := zs_iload_n (i := 3) C dX4_copy_7 rfl h8
    have h4 := zs_if_eq (tgt := 14) C dX4_copy_4 (by decide) h14 h7
    have h1 := zs_sI C dX4_copy_1 (m_X4_isSheet N) zw_465 ⟨Nat.le_of_ble_eq_true rfl, Nat.le_of_ble_eq_true rfl⟩ h4
    have h0 := zs_iload_n (i := 1) C dX4_copy_0 rfl h1
    exact h0
  case hG =>
    intro as μ r h
    obtain ⟨x0, x1, x2, x3, x4, x5, rfl, h⟩ := g_X4_copy_i h
    exact ⟨Nat.le_of_ble_eq_true rfl, h⟩
theorem m_X4_copy (N : Nat) : zk_MV yX4_copy cX4_copy 8 (some .int) ({ frames := 1, cells := 0, slots := 0, locals := 26 } : Room) zq_I (g_X4_copy N) 5 4 := ⟨c_X4_copy N, zw_534, zw_532, zw_533, zw_26, rfl, rfl, by decide +kernel, by decide, ⟨TX4, 8, rfl⟩, fun as μ r h => by obtain ⟨x0, x1, x2, x3, x4, x5, rfl, -⟩ := g_X4_copy_i h; exact ⟨_, _, rfl⟩⟩
