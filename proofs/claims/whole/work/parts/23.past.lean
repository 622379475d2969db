-- LongestWed$Past.forget()V
def f_X0_forget (N : Nat) (x0 : Nat) (μ : ZM) : Option (ZM) :=
  let μ1 := zk_si μ x0 2 0
  some μ1
def g_X0_forget (N : Nat) (as : List ZV) (μ : ZM) : Option (ZM) := match as with
  | [.inr (.inr (0, x0))] => f_X0_forget N x0 μ
  | _ => none
theorem g_X0_forget_i {N : Nat} {as : List ZV} {μ : ZM} {r : ZM} (h : g_X0_forget N as μ = some r) : ∃ (x0 : Nat), as = [.inr (.inr (0, x0))] ∧ f_X0_forget N x0 μ = some r := by
  unfold g_X0_forget at h
  split at h
  · exact ⟨_, rfl, h⟩
  · cases h
set_option maxRecDepth 100000 in
theorem c_X0_forget (N : Nat) : zk_C yX0_forget cX0_forget 1 none ({ frames := 0, cells := 0, slots := 0, locals := 0 } : Room) zq_V (g_X0_forget N) := by
  refine zk_met ?κ (by decide +kernel) ?hG ?body
  case body =>
    intro X E C
    have C : zk_X X E RX0 cX0_forget 1 none ({ frames := 0, cells := 0, slots := 0, locals := 0 } : Room) := C
    have h5 := zs_vret C dX0_forget_5
    have h2 := zs_pI C dX0_forget_2 zf_0_2 zw_94 rfl (by decide +kernel) h5
    have h1 := zs_iconst (v := 0) C dX0_forget_1 (by decide) h2
    have h0 := zs_aload_n (i := 0) C dX0_forget_0 rfl h1
    exact h0
  case hG =>
    intro as μ r h
    obtain ⟨x0, rfl, h⟩ := g_X0_forget_i h
    exact ⟨Nat.le_of_ble_eq_true rfl, h⟩
theorem m_X0_forget (N : Nat) : zk_MV yX0_forget cX0_forget 1 none ({ frames := 0, cells := 0, slots := 0, locals := 0 } : Room) zq_V (g_X0_forget N) 0 0 := ⟨c_X0_forget N, zw_180, zw_178, zw_179, zw_28, rfl, rfl, by decide +kernel, by decide, ⟨TX0, 3, rfl⟩, fun as μ r h => by obtain ⟨x0, rfl, -⟩ := g_X0_forget_i h; exact ⟨_, _, rfl⟩⟩
-- LongestWed$Past.note(LLongestWed$Town;)V
def f_X0_note (N : Nat) (x0 : Nat) (x1 : Nat) (μ : ZM) : Option (ZM) :=
  if zk_o (μ.1 x0 1) 8 = true then none else
  (f_X3_become N ((x0 + 1) + 1 + 5 * Int32.toNatClampNeg (μ.1 x0 1)) x1 μ).bind fun r1 =>
  let μ2 := zk_si r1 x0 1 (((r1.1 x0 1) + 1) - ((r1.1 x0 1) + 1) / 8 * 8)
  let μ3 := zk_si μ2 x0 2 (if ((μ2.1 x0 2) + 1) < 8 then ((μ2.1 x0 2) + 1) else 8)
  some μ3
def g_X0_note (N : Nat) (as : List ZV) (μ : ZM) : Option (ZM) := match as with
  | [.inr (.inr (0, x0)), .inr (.inr (3, x1))] => f_X0_note N x0 x1 μ
  | _ => none
theorem g_X0_note_i {N : Nat} {as : List ZV} {μ : ZM} {r : ZM} (h : g_X0_note N as μ = some r) : ∃ (x0 : Nat) (x1 : Nat), as = [.inr (.inr (0, x0)), .inr (.inr (3, x1))] ∧ f_X0_note N x0 x1 μ = some r := by
  unfold g_X0_note at h
  split at h
  · exact ⟨_, _, rfl, h⟩
  · cases h
set_option maxRecDepth 100000 in
theorem c_X0_note (N : Nat) : zk_C yX0_note cX0_note 2 none ({ frames := 2, cells := 0, slots := 0, locals := 47 } : Room) zq_V (g_X0_note N) := by
  refine zk_met ?κ (by decide +kernel) ?hG ?body
  case body =>
    intro X E C
    have C : zk_X X E RX0 cX0_note 2 none ({ frames := 2, cells := 0, slots := 0, locals := 47 } : Room) := C
    have h41 := zs_vret C dX0_note_41
    have h38 := zs_pI C dX0_note_38 zf_0_2 zw_94 rfl (by decide +kernel) h41
    have h35 := zs_mmin C dX0_note_35 zw_295 zw_296 zw_33 zw_297 (Nat.le_of_ble_eq_true rfl) (Nat.le_of_ble_eq_true rfl) h38
    have h34 := zs_iadd C dX0_note_34 h35
    have h33 := zs_iconst (v := 1) C dX0_note_33 (by decide) h34
    have h30 := zs_gI C dX0_note_30 zf_0_2 zw_94 h33
    have h29 := zs_aload_n (i := 0) C dX0_note_29 rfl h30
    have h27 := zs_bipush (v := 8) C dX0_note_27 (by decide) h29
    have h26 := zs_aload_n (i := 0) C dX0_note_26 rfl h27
    have h23 := zs_pI C dX0_note_23 zf_0_1 zw_93 rfl (by decide +kernel) h26
    have h22 := zs_irem C dX0_note_22 h23
    have h20 := zs_bipush (v := 8) C dX0_note_20 (by decide) h22
    have h19 := zs_iadd C dX0_note_19 h20
    have h18 := zs_iconst (v := 1) C dX0_note_18 (by decide) h19
    have h15 := zs_gI C dX0_note_15 zf_0_1 zw_93 h18
    have h14 := zs_aload_n (i := 0) C dX0_note_14 rfl h15
    have h13 := zs_aload_n (i := 0) C dX0_note_13 rfl h14
    have h10 := zs_vV C dX0_note_10 (m_X3_become N) zw_294 ⟨Nat.le_of_ble_eq_true rfl, Nat.le_of_ble_eq_true rfl⟩ h13
    have h9 := zs_aload_n (i := 1) C dX0_note_9 rfl h10
    have h8 := zs_aldT C dX0_note_8 h9
    have h5 := zs_gI C dX0_note_5 zf_0_1 zw_93 h8
    have h4 := zs_aload_n (i := 0) C dX0_note_4 rfl h5
    have h1 := zs_gR C dX0_note_1 zf_0_0 zw_92 h4
    have h0 := zs_aload_n (i := 0) C dX0_note_0 rfl h1
    exact h0
  case hG =>
    intro as μ r h
    obtain ⟨x0, x1, rfl, h⟩ := g_X0_note_i h
    exact ⟨Nat.le_of_ble_eq_true rfl, h⟩
theorem m_X0_note (N : Nat) : zk_MV yX0_note cX0_note 2 none ({ frames := 2, cells := 0, slots := 0, locals := 47 } : Room) zq_V (g_X0_note N) 1 0 := ⟨c_X0_note N, zw_293, zw_291, zw_292, zw_28, rfl, rfl, by decide +kernel, by decide, ⟨TX0, 3, rfl⟩, fun as μ r h => by obtain ⟨x0, x1, rfl, -⟩ := g_X0_note_i h; exact ⟨_, _, rfl⟩⟩
-- LongestWed$Past.giveBack(LLongestWed$Town;)V
def f_X0_giveBack (N : Nat) (x0 : Nat) (x1 : Nat) (μ : ZM) : Option (ZM) :=
  let μ1 := zk_si μ x0 1 ((((μ.1 x0 1) + 8) - 1) - (((μ.1 x0 1) + 8) - 1) / 8 * 8)
  let μ2 := zk_si μ1 x0 2 ((μ1.1 x0 2) - 1)
  if zk_o (μ2.1 x0 1) 8 = true then none else
  (f_X3_become N x1 ((x0 + 1) + 1 + 5 * Int32.toNatClampNeg (μ2.1 x0 1)) μ2).bind fun r3 =>
  some r3
def g_X0_giveBack (N : Nat) (as : List ZV) (μ : ZM) : Option (ZM) := match as with
  | [.inr (.inr (0, x0)), .inr (.inr (3, x1))] => f_X0_giveBack N x0 x1 μ
  | _ => none
theorem g_X0_giveBack_i {N : Nat} {as : List ZV} {μ : ZM} {r : ZM} (h : g_X0_giveBack N as μ = some r) : ∃ (x0 : Nat) (x1 : Nat), as = [.inr (.inr (0, x0)), .inr (.inr (3, x1))] ∧ f_X0_giveBack N x0 x1 μ = some r := by
  unfold g_X0_giveBack at h
  split at h
  · exact ⟨_, _, rfl, h⟩
  · cases h
set_option maxRecDepth 100000 in
theorem c_X0_giveBack (N : Nat) : zk_C yX0_giveBack cX0_giveBack 2 none ({ frames := 2, cells := 0, slots := 0, locals := 47 } : Room) zq_V (g_X0_giveBack N) := by
  refine zk_met ?κ (by decide +kernel) ?hG ?body
  case body =>
    intro X E C
    have C : zk_X X E RX0 cX0_giveBack 2 none ({ frames := 2, cells := 0, slots := 0, locals := 47 } : Room) := C
    have h39 := zs_vret C dX0_giveBack_39
    have h36 := zs_vV C dX0_giveBack_36 (m_X3_become N) zw_294 ⟨Nat.le_of_ble_eq_true rfl, Nat.le_of_ble_eq_true rfl⟩ h39
    have h35 := zs_aldT C dX0_giveBack_35 h36
    have h32 := zs_gI C dX0_giveBack_32 zf_0_1 zw_93 h35
    have h31 := zs_aload_n (i := 0) C dX0_giveBack_31 rfl h32
    have h28 := zs_gR C dX0_giveBack_28 zf_0_0 zw_92 h31
    have h27 := zs_aload_n (i := 0) C dX0_giveBack_27 rfl h28
    have h26 := zs_aload_n (i := 1) C dX0_giveBack_26 rfl h27
    have h23 := zs_pI C dX0_giveBack_23 zf_0_2 zw_94 rfl (by decide +kernel) h26
    have h22 := zs_isub C dX0_giveBack_22 h23
    have h21 := zs_iconst (v := 1) C dX0_giveBack_21 (by decide) h22
    have h18 := zs_gI C dX0_giveBack_18 zf_0_2 zw_94 h21
    have h17 := zs_dup C dX0_giveBack_17 h18
    have h16 := zs_aload_n (i := 0) C dX0_giveBack_16 rfl h17
    have h13 := zs_pI C dX0_giveBack_13 zf_0_1 zw_93 rfl (by decide +kernel) h16
    have h12 := zs_irem C dX0_giveBack_12 h13
    have h10 := zs_bipush (v := 8) C dX0_giveBack_10 (by decide) h12
    have h9 := zs_isub C dX0_giveBack_9 h10
    have h8 := zs_iconst (v := 1) C dX0_giveBack_8 (by decide) h9
    have h7 := zs_iadd C dX0_giveBack_7 h8
    have h5 := zs_bipush (v := 8) C dX0_giveBack_5 (by decide) h7
    have h2 := zs_gI C dX0_giveBack_2 zf_0_1 zw_93 h5
    have h1 := zs_aload_n (i := 0) C dX0_giveBack_1 rfl h2
    have h0 := zs_aload_n (i := 0) C dX0_giveBack_0 rfl h1
    exact h0
  case hG =>
    intro as μ r h
    obtain ⟨x0, x1, rfl, h⟩ := g_X0_giveBack_i h
    exact ⟨Nat.le_of_ble_eq_true rfl, h⟩
theorem m_X0_giveBack (N : Nat) : zk_MV yX0_giveBack cX0_giveBack 2 none ({ frames := 2, cells := 0, slots := 0, locals := 47 } : Room) zq_V (g_X0_giveBack N) 1 0 := ⟨c_X0_giveBack N, zw_350, zw_348, zw_349, zw_28, rfl, rfl, by decide +kernel, by decide, ⟨TX0, 3, rfl⟩, fun as μ r h => by obtain ⟨x0, x1, rfl, -⟩ := g_X0_giveBack_i h; exact ⟨_, _, rfl⟩⟩
-- LongestWed$Past.become(LLongestWed$Past;)V
def f_X0_become_L2 (N : Nat) : Nat → Nat → Nat → Int32 → ZM → Option (ZM)
  | 0, _, _, _, _ => none
  | n + 1, x0, x1, x2, μ =>
    if (8 : Int32) ≤ x2 then
      let μ1 := zk_si μ x0 1 (μ.1 x1 1)
      let μ2 := zk_si μ1 x0 2 (μ1.1 x1 2)
      some μ2
    else
      if zk_o x2 8 = true then none else
      if zk_o x2 8 = true then none else
      (f_X3_become N ((x0 + 1) + 1 + 5 * Int32.toNatClampNeg x2) ((x1 + 1) + 1 + 5 * Int32.toNatClampNeg x2) μ).bind fun r3 =>
      f_X0_become_L2 N n x0 x1 (x2 + 1) r3
def k_X0_become_L2 (N n : Nat) : ZK (ZM) := fun L st μ => match L, st with
  | [some (.inr (.inr (0, x0))), some (.inr (.inr (0, x1))), some (.inl x2)], [] => f_X0_become_L2 N n x0 x1 x2 μ
  | _, _ => none
theorem k_X0_become_L2_i {N : Nat} {n : Nat} {L : ZL} {st : List ZV} {μ : ZM} {r : ZM} (h : k_X0_become_L2 N n L st μ = some r) : ∃ (x0 : Nat) (x1 : Nat) (x2 : Int32), L = [some (.inr (.inr (0, x0))), some (.inr (.inr (0, x1))), some (.inl x2)] ∧ st = [] ∧ f_X0_become_L2 N n x0 x1 x2 μ = some r := by
  unfold k_X0_become_L2 at h
  split at h
  · exact ⟨_, _, _, rfl, rfl, h⟩
  · cases h
set_option maxRecDepth 100000 in
theorem s_X0_become_L2 (N : Nat) {X : ZX} {E : ZE} (C : zk_X X E RX0 cX0_become 3 none ({ frames := 2, cells := 0, slots := 0, locals := 47 } : Room)) : ∀ n, zk_S X E 3 zq_V 2 (k_X0_become_L2 N n) := by
  intro n
  induction n with
  | zero =>
    intro H locs ls L st μ r h hL hst hW hS
    obtain ⟨x0, x1, x2, rfl, rfl, h⟩ := k_X0_become_L2_i h
    exact nomatch (show none = some r from h)
  | succ n ih =>
    have h45 := zs_vret C dX0_become_45
    have h42 := zs_pI C dX0_become_42 zf_0_2 zw_94 rfl (by decide +kernel) h45
    have h39 := zs_gI C dX0_become_39 zf_0_2 zw_94 h42
    have h38 := zs_aload_n (i := 1) C dX0_become_38 rfl h39
    have h37 := zs_aload_n (i := 0) C dX0_become_37 rfl h38
    have h34 := zs_pI C dX0_become_34 zf_0_1 zw_93 rfl (by decide +kernel) h37
    have h31 := zs_gI C dX0_become_31 zf_0_1 zw_93 h34
    have h30 := zs_aload_n (i := 1) C dX0_become_30 rfl h31
    have h29 := zs_aload_n (i := 0) C dX0_become_29 rfl h30
    have h26 := zs_goto (tgt := 2) C dX0_become_26 (by decide) ih
    have h23 := zs_iinc (n := 1) C dX0_become_23 (by decide) h26
    have h20 := zs_vV C dX0_become_20 (m_X3_become N) zw_294 ⟨Nat.le_of_ble_eq_true rfl, Nat.le_of_ble_eq_true rfl⟩ h23
    have h19 := zs_aldT C dX0_become_19 h20
    have h18 := zs_iload_n (i := 2) C dX0_become_18 rfl h19
    have h15 := zs_gR C dX0_become_15 zf_0_0 zw_92 h18
    have h14 := zs_aload_n (i := 1) C dX0_become_14 rfl h15
    have h13 := zs_aldT C dX0_become_13 h14
    have h12 := zs_iload_n (i := 2) C dX0_become_12 rfl h13
    have h9 := zs_gR C dX0_become_9 zf_0_0 zw_92 h12
    have h8 := zs_aload_n (i := 0) C dX0_become_8 rfl h9
    have h5 := zs_icmp_ge (tgt := 29) C dX0_become_5 (by decide) h29 h8
    have h3 := zs_bipush (v := 8) C dX0_become_3 (by decide) h5
    have h2 := zs_iload_n (i := 2) C dX0_become_2 rfl h3
    intro H locs ls L st μ r h hL hst hW hS
    obtain ⟨x0, x1, x2, rfl, rfl, h⟩ := k_X0_become_L2_i h
    exact h2 H locs ls [some (.inr (.inr (0, x0))), some (.inr (.inr (0, x1))), some (.inl x2)] [] μ r h (hL.less ⟨rfl, rfl, rfl, trivial⟩) hst hW hS
def f_X0_become (N : Nat) (x0 : Nat) (x1 : Nat) (μ : ZM) : Option (ZM) :=
  f_X0_become_L2 N N x0 x1 0 μ
def g_X0_become (N : Nat) (as : List ZV) (μ : ZM) : Option (ZM) := match as with
  | [.inr (.inr (0, x0)), .inr (.inr (0, x1))] => f_X0_become N x0 x1 μ
  | _ => none
theorem g_X0_become_i {N : Nat} {as : List ZV} {μ : ZM} {r : ZM} (h : g_X0_become N as μ = some r) : ∃ (x0 : Nat) (x1 : Nat), as = [.inr (.inr (0, x0)), .inr (.inr (0, x1))] ∧ f_X0_become N x0 x1 μ = some r := by
  unfold g_X0_become at h
  split at h
  · exact ⟨_, _, rfl, h⟩
  · cases h
set_option maxRecDepth 100000 in
theorem c_X0_become (N : Nat) : zk_C yX0_become cX0_become 3 none ({ frames := 2, cells := 0, slots := 0, locals := 47 } : Room) zq_V (g_X0_become N) := by
  refine zk_met ?κ (by decide +kernel) ?hG ?body
  case body =>
    intro X E C
    have C : zk_X X E RX0 cX0_become 3 none ({ frames := 2, cells := 0, slots := 0, locals := 47 } : Room) := C
    have e2 := s_X0_become_L2 N C N
    have h1 := zs_istore_n (i := 2) C dX0_become_1 rfl e2
    have h0 := zs_iconst (v := 0) C dX0_become_0 (by decide) h1
    exact h0
  case hG =>
    intro as μ r h
    obtain ⟨x0, x1, rfl, h⟩ := g_X0_become_i h
    exact ⟨Nat.le_of_ble_eq_true rfl, h⟩
theorem m_X0_become (N : Nat) : zk_MV yX0_become cX0_become 3 none ({ frames := 2, cells := 0, slots := 0, locals := 47 } : Room) zq_V (g_X0_become N) 1 0 := ⟨c_X0_become N, zw_456, zw_454, zw_455, zw_28, rfl, rfl, by decide +kernel, by decide, ⟨TX0, 3, rfl⟩, fun as μ r h => by obtain ⟨x0, x1, rfl, -⟩ := g_X0_become_i h; exact ⟨_, _, rfl⟩⟩
