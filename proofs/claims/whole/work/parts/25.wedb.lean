-- LongestWed.firstYearOfKeys(I)I
def f_X4_firstYearOfKeys_L13 (N : Nat) : Nat → Nat → Int32 → Int32 → ZM → Option (Int32 × ZM)
  | 0, _, _, _, _ => none
  | n + 1, x0, x1, x2, μ =>
    if (60 : Int32) < x2 then
      some ((-4), μ)
    else
      (f_X3_keeper N (x0 + 98) μ).bind fun r1 =>
      if ¬ r1.1 = x1 then
        (f_X3_passYear N (x0 + 98) r1.2).bind fun r2 =>
        f_X4_firstYearOfKeys_L13 N n x0 x1 (x2 + 1) r2
      else
        some (x2, r1.2)
def k_X4_firstYearOfKeys_L13 (N n : Nat) : ZK (Int32 × ZM) := fun L st μ => match L, st with
  | [some (.inr (.inr (4, x0))), some (.inl x1), some (.inl x2)], [] => f_X4_firstYearOfKeys_L13 N n x0 x1 x2 μ
  | _, _ => none
theorem k_X4_firstYearOfKeys_L13_i {N : Nat} {n : Nat} {L : ZL} {st : List ZV} {μ : ZM} {r : Int32 × ZM} (h : k_X4_firstYearOfKeys_L13 N n L st μ = some r) : ∃ (x0 : Nat) (x1 : Int32) (x2 : Int32), L = [some (.inr (.inr (4, x0))), some (.inl x1), some (.inl x2)] ∧ st = [] ∧ f_X4_firstYearOfKeys_L13 N n x0 x1 x2 μ = some r := by
  unfold k_X4_firstYearOfKeys_L13 at h
  split at h
  · exact ⟨_, _, _, rfl, rfl, h⟩
  · cases h
set_option maxRecDepth 100000 in
theorem s_X4_firstYearOfKeys_L13 (N : Nat) {X : ZX} {E : ZE} (C : zk_X X E RX4 cX4_firstYearOfKeys 3 (some .int) ({ frames := 3, cells := 0, slots := 0, locals := 68 } : Room)) : ∀ n, zk_S X E 3 zq_I 13 (k_X4_firstYearOfKeys_L13 N n) := by
  intro n
  induction n with
  | zero =>
    intro H locs ls L st μ r h hL hst hW hS
    obtain ⟨x0, x1, x2, rfl, rfl, h⟩ := k_X4_firstYearOfKeys_L13_i h
    exact nomatch (show none = some r from h)
  | succ n ih =>
    have h47 := zs_iret C dX4_firstYearOfKeys_47
    have h45 := zs_bipush (v := (-4)) C dX4_firstYearOfKeys_45 (by decide) h47
    have h42 := zs_goto (tgt := 13) C dX4_firstYearOfKeys_42 (by decide) ih
    have h39 := zs_iinc (n := 1) C dX4_firstYearOfKeys_39 (by decide) h42
    have h36 := zs_vV C dX4_firstYearOfKeys_36 (m_X3_passYear N) zw_298 ⟨Nat.le_of_ble_eq_true rfl, Nat.le_of_ble_eq_true rfl⟩ h39
    have h33 := zs_gR C dX4_firstYearOfKeys_33 zf_4_6 zw_151 h36
    have h32 := zs_aload_n (i := 0) C dX4_firstYearOfKeys_32 rfl h33
    have h31 := zs_iret C dX4_firstYearOfKeys_31
    have h30 := zs_iload_n (i := 2) C dX4_firstYearOfKeys_30 rfl h31
    have h27 := zs_icmp_ne (tgt := 32) C dX4_firstYearOfKeys_27 (by decide) h32 h30
    have h26 := zs_iload_n (i := 1) C dX4_firstYearOfKeys_26 rfl h27
    have h23 := zs_vI C dX4_firstYearOfKeys_23 (m_X3_keeper N) zw_280 ⟨Nat.le_of_ble_eq_true rfl, Nat.le_of_ble_eq_true rfl⟩ h26
    have h20 := zs_gR C dX4_firstYearOfKeys_20 zf_4_6 zw_151 h23
    have h19 := zs_aload_n (i := 0) C dX4_firstYearOfKeys_19 rfl h20
    have h16 := zs_icmp_gt (tgt := 45) C dX4_firstYearOfKeys_16 (by decide) h45 h19
    have h14 := zs_bipush (v := 60) C dX4_firstYearOfKeys_14 (by decide) h16
    have h13 := zs_iload_n (i := 2) C dX4_firstYearOfKeys_13 rfl h14
    intro H locs ls L st μ r h hL hst hW hS
    obtain ⟨x0, x1, x2, rfl, rfl, h⟩ := k_X4_firstYearOfKeys_L13_i h
    exact h13 H locs ls [some (.inr (.inr (4, x0))), some (.inl x1), some (.inl x2)] [] μ r h (hL.less ⟨rfl, rfl, rfl, trivial⟩) hst hW hS
def f_X4_firstYearOfKeys (N : Nat) (x0 : Nat) (x1 : Int32) (μ : ZM) : Option (Int32 × ZM) :=
  (f_X3_become N (x0 + 98) (x0 + 1) μ).bind fun r1 =>
  f_X4_firstYearOfKeys_L13 N N x0 x1 0 r1
def g_X4_firstYearOfKeys (N : Nat) (as : List ZV) (μ : ZM) : Option (Int32 × ZM) := match as with
  | [.inr (.inr (4, x0)), .inl x1] => f_X4_firstYearOfKeys N x0 x1 μ
  | _ => none
theorem g_X4_firstYearOfKeys_i {N : Nat} {as : List ZV} {μ : ZM} {r : Int32 × ZM} (h : g_X4_firstYearOfKeys N as μ = some r) : ∃ (x0 : Nat) (x1 : Int32), as = [.inr (.inr (4, x0)), .inl x1] ∧ f_X4_firstYearOfKeys N x0 x1 μ = some r := by
  unfold g_X4_firstYearOfKeys at h
  split at h
  · exact ⟨_, _, rfl, h⟩
  · cases h
set_option maxRecDepth 100000 in
theorem c_X4_firstYearOfKeys (N : Nat) : zk_C yX4_firstYearOfKeys cX4_firstYearOfKeys 3 (some .int) ({ frames := 3, cells := 0, slots := 0, locals := 68 } : Room) zq_I (g_X4_firstYearOfKeys N) := by
  refine zk_met ?κ (by decide +kernel) ?hG ?body
  case body =>
    intro X E C
    have C : zk_X X E RX4 cX4_firstYearOfKeys 3 (some .int) ({ frames := 3, cells := 0, slots := 0, locals := 68 } : Room) := C
    have e13 := s_X4_firstYearOfKeys_L13 N C N
    have h12 := zs_istore_n (i := 2) C dX4_firstYearOfKeys_12 rfl e13
    have h11 := zs_iconst (v := 0) C dX4_firstYearOfKeys_11 (by decide) h12
    have h8 := zs_vV C dX4_firstYearOfKeys_8 (m_X3_become N) zw_269 ⟨Nat.le_of_ble_eq_true rfl, Nat.le_of_ble_eq_true rfl⟩ h11
    have h5 := zs_gR C dX4_firstYearOfKeys_5 zf_4_0 zw_145 h8
    have h4 := zs_aload_n (i := 0) C dX4_firstYearOfKeys_4 rfl h5
    have h1 := zs_gR C dX4_firstYearOfKeys_1 zf_4_6 zw_151 h4
    have h0 := zs_aload_n (i := 0) C dX4_firstYearOfKeys_0 rfl h1
    exact h0
  case hG =>
    intro as μ r h
    obtain ⟨x0, x1, rfl, h⟩ := g_X4_firstYearOfKeys_i h
    exact ⟨Nat.le_of_ble_eq_true rfl, h⟩
theorem m_X4_firstYearOfKeys (N : Nat) : zk_MV yX4_firstYearOfKeys cX4_firstYearOfKeys 3 (some .int) ({ frames := 3, cells := 0, slots := 0, locals := 68 } : Room) zq_I (g_X4_firstYearOfKeys N) 1 4 := ⟨c_X4_firstYearOfKeys N, zw_379, zw_378, zw_1, zw_26, rfl, rfl, by decide +kernel, by decide, ⟨TX4, 8, rfl⟩, fun as μ r h => by obtain ⟨x0, x1, rfl, -⟩ := g_X4_firstYearOfKeys_i h; exact ⟨_, _, rfl⟩⟩
-- LongestWed.yearsOfKeys(I)I
def f_X4_yearsOfKeys_L15 (N : Nat) : Nat → Nat → Int32 → Int32 → Int32 → ZM → Option (Int32 × ZM)
  | 0, _, _, _, _, _ => none
  | n + 1, x0, x1, x2, x3, μ =>
    if (60 : Int32) < x3 then
      some (x2, μ)
    else
      (f_X3_keeper N (x0 + 98) μ).bind fun r1 =>
      let j35 : Int32 → Option (Int32 × ZM) := fun a2 =>
        (f_X3_passYear N (x0 + 98) r1.2).bind fun r3 =>
        f_X4_yearsOfKeys_L15 N n x0 x1 a2 (x3 + 1) r3
      if ¬ r1.1 = x1 then
        j35 x2
      else
        j35 (x2 + 1)
def k_X4_yearsOfKeys_L15 (N n : Nat) : ZK (Int32 × ZM) := fun L st μ => match L, st with
  | [some (.inr (.inr (4, x0))), some (.inl x1), some (.inl x2), some (.inl x3)], [] => f_X4_yearsOfKeys_L15 N n x0 x1 x2 x3 μ
  | _, _ => none
theorem k_X4_yearsOfKeys_L15_i {N : Nat} {n : Nat} {L : ZL} {st : List ZV} {μ : ZM} {r : Int32 × ZM} (h : k_X4_yearsOfKeys_L15 N n L st μ = some r) : ∃ (x0 : Nat) (x1 : Int32) (x2 : Int32) (x3 : Int32), L = [some (.inr (.inr (4, x0))), some (.inl x1), some (.inl x2), some (.inl x3)] ∧ st = [] ∧ f_X4_yearsOfKeys_L15 N n x0 x1 x2 x3 μ = some r := by
  unfold k_X4_yearsOfKeys_L15 at h
  split at h
  · exact ⟨_, _, _, _, rfl, rfl, h⟩
  · cases h
set_option maxRecDepth 100000 in
theorem s_X4_yearsOfKeys_L15 (N : Nat) {X : ZX} {E : ZE} (C : zk_X X E RX4 cX4_yearsOfKeys 4 (some .int) ({ frames := 3, cells := 0, slots := 0, locals := 68 } : Room)) : ∀ n, zk_S X E 4 zq_I 15 (k_X4_yearsOfKeys_L15 N n) := by
  intro n
  induction n with
  | zero =>
    intro H locs ls L st μ r h hL hst hW hS
    obtain ⟨x0, x1, x2, x3, rfl, rfl, h⟩ := k_X4_yearsOfKeys_L15_i h
    exact nomatch (show none = some r from h)
  | succ n ih =>
    have h49 := zs_iret C dX4_yearsOfKeys_49
    have h48 := zs_iload_n (i := 2) C dX4_yearsOfKeys_48 rfl h49
    have h45 := zs_goto (tgt := 15) C dX4_yearsOfKeys_45 (by decide) ih
    have h42 := zs_iinc (n := 1) C dX4_yearsOfKeys_42 (by decide) h45
    have h39 := zs_vV C dX4_yearsOfKeys_39 (m_X3_passYear N) zw_298 ⟨Nat.le_of_ble_eq_true rfl, Nat.le_of_ble_eq_true rfl⟩ h42
    have h36 := zs_gR C dX4_yearsOfKeys_36 zf_4_6 zw_151 h39
    have h35 := zs_aload_n (i := 0) C dX4_yearsOfKeys_35 rfl h36
    have h32 := zs_iinc (n := 1) C dX4_yearsOfKeys_32 (by decide) h35
    have h29 := zs_icmp_ne (tgt := 35) C dX4_yearsOfKeys_29 (by decide) h35 h32
    have h28 := zs_iload_n (i := 1) C dX4_yearsOfKeys_28 rfl h29
    have h25 := zs_vI C dX4_yearsOfKeys_25 (m_X3_keeper N) zw_280 ⟨Nat.le_of_ble_eq_true rfl, Nat.le_of_ble_eq_true rfl⟩ h28
    have h22 := zs_gR C dX4_yearsOfKeys_22 zf_4_6 zw_151 h25
    have h21 := zs_aload_n (i := 0) C dX4_yearsOfKeys_21 rfl h22
    have h18 := zs_icmp_gt (tgt := 48) C dX4_yearsOfKeys_18 (by decide) h48 h21
    have h16 := zs_bipush (v := 60) C dX4_yearsOfKeys_16 (by decide) h18
    have h15 := zs_iload_n (i := 3) C dX4_yearsOfKeys_15 rfl h16
    intro H locs ls L st μ r h hL hst hW hS
    obtain ⟨x0, x1, x2, x3, rfl, rfl, h⟩ := k_X4_yearsOfKeys_L15_i h
    exact h15 H locs ls [some (.inr (.inr (4, x0))), some (.inl x1), some (.inl x2), some (.inl x3)] [] μ r h (hL.less ⟨rfl, rfl, rfl, rfl, trivial⟩) hst hW hS
def f_X4_yearsOfKeys (N : Nat) (x0 : Nat) (x1 : Int32) (μ : ZM) : Option (Int32 × ZM) :=
  (f_X3_become N (x0 + 98) (x0 + 1) μ).bind fun r1 =>
  f_X4_yearsOfKeys_L15 N N x0 x1 0 0 r1
def g_X4_yearsOfKeys (N : Nat) (as : List ZV) (μ : ZM) : Option (Int32 × ZM) := match as with
  | [.inr (.inr (4, x0)), .inl x1] => f_X4_yearsOfKeys N x0 x1 μ
  | _ => none
theorem g_X4_yearsOfKeys_i {N : Nat} {as : List ZV} {μ : ZM} {r : Int32 × ZM} (h : g_X4_yearsOfKeys N as μ = some r) : ∃ (x0 : Nat) (x1 : Int32), as = [.inr (.inr (4, x0)), .inl x1] ∧ f_X4_yearsOfKeys N x0 x1 μ = some r := by
  unfold g_X4_yearsOfKeys at h
  split at h
  · exact ⟨_, _, rfl, h⟩
  · cases h
set_option maxRecDepth 100000 in
theorem c_X4_yearsOfKeys (N : Nat) : zk_C yX4_yearsOfKeys cX4_yearsOfKeys 4 (some .int) ({ frames := 3, cells := 0, slots := 0, locals := 68 } : Room) zq_I (g_X4_yearsOfKeys N) := by
  refine zk_met ?κ (by decide +kernel) ?hG ?body
  case body =>
    intro X E C
    have C : zk_X X E RX4 cX4_yearsOfKeys 4 (some .int) ({ frames := 3, cells := 0, slots := 0, locals := 68 } : Room) := C
    have e15 := s_X4_yearsOfKeys_L15 N C N
    have h14 := zs_istore_n (i := 3) C dX4_yearsOfKeys_14 rfl e15
    have h13 := zs_iconst (v := 0) C dX4_yearsOfKeys_13 (by decide) h14
    have h10 := zs_vV C dX4_yearsOfKeys_10 (m_X3_become N) zw_269 ⟨Nat.le_of_ble_eq_true rfl, Nat.le_of_ble_eq_true rfl⟩ h13
    have h7 := zs_gR C dX4_yearsOfKeys_7 zf_4_0 zw_145 h10
    have h6 := zs_aload_n (i := 0) C dX4_yearsOfKeys_6 rfl h7
    have h3 := zs_gR C dX4_yearsOfKeys_3 zf_4_6 zw_151 h6
    have h2 := zs_aload_n (i := 0) C dX4_yearsOfKeys_2 rfl h3
    have h1 := zs_istore_n (i := 2) C dX4_yearsOfKeys_1 rfl h2
    have h0 := zs_iconst (v := 0) C dX4_yearsOfKeys_0 (by decide) h1
    exact h0
  case hG =>
    intro as μ r h
    obtain ⟨x0, x1, rfl, h⟩ := g_X4_yearsOfKeys_i h
    exact ⟨Nat.le_of_ble_eq_true rfl, h⟩
theorem m_X4_yearsOfKeys (N : Nat) : zk_MV yX4_yearsOfKeys cX4_yearsOfKeys 4 (some .int) ({ frames := 3, cells := 0, slots := 0, locals := 68 } : Room) zq_I (g_X4_yearsOfKeys N) 1 4 := ⟨c_X4_yearsOfKeys N, zw_383, zw_382, zw_2, zw_26, rfl, rfl, by decide +kernel, by decide, ⟨TX4, 8, rfl⟩, fun as μ r h => by obtain ⟨x0, x1, rfl, -⟩ := g_X4_yearsOfKeys_i h; exact ⟨_, _, rfl⟩⟩
-- LongestWed.rises(II)I
def f_X4_rises (N : Nat) (x0 : Nat) (x1 : Int32) (x2 : Int32) (μ : ZM) : Option (Int32 × ZM) :=
  (f_X4_isCouple N x0 x1 μ).bind fun r1 =>
  if r1.1 = 0 then
    some ((-1), r1.2)
  else
    (f_X4_within N x2 0 1 r1.2).bind fun r2 =>
    if ¬ r2.1 = 0 then
      if ¬ x2 = 0 then
        (f_X4_yearsOfKeys N x0 x1 r2.2).bind fun r3 =>
        some (r3.1, r3.2)
      else
        (f_X4_firstYearOfKeys N x0 x1 r2.2).bind fun r4 =>
        some (r4.1, r4.2)
    else
      some ((-1), r2.2)
def g_X4_rises (N : Nat) (as : List ZV) (μ : ZM) : Option (Int32 × ZM) := match as with
  | [.inr (.inr (4, x0)), .inl x1, .inl x2] => f_X4_rises N x0 x1 x2 μ
  | _ => none
theorem g_X4_rises_i {N : Nat} {as : List ZV} {μ : ZM} {r : Int32 × ZM} (h : g_X4_rises N as μ = some r) : ∃ (x0 : Nat) (x1 : Int32) (x2 : Int32), as = [.inr (.inr (4, x0)), .inl x1, .inl x2] ∧ f_X4_rises N x0 x1 x2 μ = some r := by
  unfold g_X4_rises at h
  split at h
  · exact ⟨_, _, _, rfl, h⟩
  · cases h
set_option maxRecDepth 100000 in
theorem c_X4_rises (N : Nat) : zk_C yX4_rises cX4_rises 3 (some .int) ({ frames := 4, cells := 0, slots := 0, locals := 91 } : Room) zq_I (g_X4_rises N) := by
  refine zk_met ?κ (by decide +kernel) ?hG ?body
  case body =>
    intro X E C
    have C : zk_X X E RX4 cX4_rises 3 (some .int) ({ frames := 4, cells := 0, slots := 0, locals := 91 } : Room) := C
    have h36 := zs_iret C dX4_rises_36
    have h33 := zs_vI C dX4_rises_33 (m_X4_yearsOfKeys N) zw_380 ⟨Nat.le_of_ble_eq_true rfl, Nat.le_of_ble_eq_true rfl⟩ h36
    have h32 := zs_iload_n (i := 1) C dX4_rises_32 rfl h33
    have h31 := zs_aload_n (i := 0) C dX4_rises_31 rfl h32
    have h28 := zs_goto (tgt := 36) C dX4_rises_28 (by decide) h36
    have h25 := zs_vI C dX4_rises_25 (m_X4_firstYearOfKeys N) zw_376 ⟨Nat.le_of_ble_eq_true rfl, Nat.le_of_ble_eq_true rfl⟩ h28
    have h24 := zs_iload_n (i := 1) C dX4_rises_24 rfl h25
    have h23 := zs_aload_n (i := 0) C dX4_rises_23 rfl h24
    have h20 := zs_if_ne (tgt := 31) C dX4_rises_20 (by decide) h31 h23
    have h19 := zs_iload_n (i := 2) C dX4_rises_19 rfl h20
    have h18 := zs_iret C dX4_rises_18
    have h17 := zs_iconst (v := (-1)) C dX4_rises_17 (by decide) h18
    have h14 := zs_if_ne (tgt := 19) C dX4_rises_14 (by decide) h19 h17
    have h11 := zs_sI C dX4_rises_11 (m_X4_within N) zw_174 ⟨Nat.le_of_ble_eq_true rfl, Nat.le_of_ble_eq_true rfl⟩ h14
    have h10 := zs_iconst (v := 1) C dX4_rises_10 (by decide) h11
    have h9 := zs_iconst (v := 0) C dX4_rises_9 (by decide) h10
    have h8 := zs_iload_n (i := 2) C dX4_rises_8 rfl h9
    have h5 := zs_if_eq (tgt := 17) C dX4_rises_5 (by decide) h17 h8
    have h2 := zs_vI C dX4_rises_2 (m_X4_isCouple N) zw_189 ⟨Nat.le_of_ble_eq_true rfl, Nat.le_of_ble_eq_true rfl⟩ h5
    have h1 := zs_iload_n (i := 1) C dX4_rises_1 rfl h2
    have h0 := zs_aload_n (i := 0) C dX4_rises_0 rfl h1
    exact h0
  case hG =>
    intro as μ r h
    obtain ⟨x0, x1, x2, rfl, h⟩ := g_X4_rises_i h
    exact ⟨Nat.le_of_ble_eq_true rfl, h⟩
theorem m_X4_rises (N : Nat) : zk_MV yX4_rises cX4_rises 3 (some .int) ({ frames := 4, cells := 0, slots := 0, locals := 91 } : Room) zq_I (g_X4_rises N) 2 4 := ⟨c_X4_rises N, zw_375, zw_373, zw_374, zw_26, rfl, rfl, by decide +kernel, by decide, ⟨TX4, 8, rfl⟩, fun as μ r h => by obtain ⟨x0, x1, x2, rfl, -⟩ := g_X4_rises_i h; exact ⟨_, _, rfl⟩⟩
-- LongestWed.parts(I)I
def f_X4_parts_L37 (N : Nat) : Nat → Nat → Int32 → Int32 → ZM → Option (Int32 × ZM)
  | 0, _, _, _, _ => none
  | n + 1, x0, x1, x2, μ =>
    if (60 : Int32) < x2 then
      some ((-4), μ)
    else
      (f_X3_passYear N (x0 + 98) μ).bind fun r1 =>
      (f_X3_isTogether N (x0 + 98) x1 r1).bind fun r2 =>
      if ¬ r2.1 = 0 then
        f_X4_parts_L37 N n x0 x1 (x2 + 1) r2.2
      else
        some (x2, r2.2)
def k_X4_parts_L37 (N n : Nat) : ZK (Int32 × ZM) := fun L st μ => match L, st with
  | [some (.inr (.inr (4, x0))), some (.inl x1), some (.inl x2)], [] => f_X4_parts_L37 N n x0 x1 x2 μ
  | _, _ => none
theorem k_X4_parts_L37_i {N : Nat} {n : Nat} {L : ZL} {st : List ZV} {μ : ZM} {r : Int32 × ZM} (h : k_X4_parts_L37 N n L st μ = some r) : ∃ (x0 : Nat) (x1 : Int32) (x2 : Int32), L = [some (.inr (.inr (4, x0))), some (.inl x1), some (.inl x2)] ∧ st = [] ∧ f_X4_parts_L37 N n x0 x1 x2 μ = some r := by
  unfold k_X4_parts_L37 at h
  split at h
  · exact ⟨_, _, _, rfl, rfl, h⟩
  · cases h
set_option maxRecDepth 100000 in
theorem s_X4_parts_L37 (N : Nat) {X : ZX} {E : ZE} (C : zk_X X E RX4 cX4_parts 3 (some .int) ({ frames := 3, cells := 0, slots := 0, locals := 68 } : Room)) : ∀ n, zk_S X E 3 zq_I 37 (k_X4_parts_L37 N n) := by
  intro n
  induction n with
  | zero =>
    intro H locs ls L st μ r h hL hst hW hS
    obtain ⟨x0, x1, x2, rfl, rfl, h⟩ := k_X4_parts_L37_i h
    exact nomatch (show none = some r from h)
  | succ n ih =>
    have h71 := zs_iret C dX4_parts_71
    have h69 := zs_bipush (v := (-4)) C dX4_parts_69 (by decide) h71
    have h66 := zs_goto (tgt := 37) C dX4_parts_66 (by decide) ih
    have h63 := zs_iinc (n := 1) C dX4_parts_63 (by decide) h66
    have h62 := zs_iret C dX4_parts_62
    have h61 := zs_iload_n (i := 2) C dX4_parts_61 rfl h62
    have h58 := zs_if_ne (tgt := 63) C dX4_parts_58 (by decide) h63 h61
    have h55 := zs_vI C dX4_parts_55 (m_X3_isTogether N) zw_193 ⟨Nat.le_of_ble_eq_true rfl, Nat.le_of_ble_eq_true rfl⟩ h58
    have h54 := zs_iload_n (i := 1) C dX4_parts_54 rfl h55
    have h51 := zs_gR C dX4_parts_51 zf_4_6 zw_151 h54
    have h50 := zs_aload_n (i := 0) C dX4_parts_50 rfl h51
    have h47 := zs_vV C dX4_parts_47 (m_X3_passYear N) zw_298 ⟨Nat.le_of_ble_eq_true rfl, Nat.le_of_ble_eq_true rfl⟩ h50
    have h44 := zs_gR C dX4_parts_44 zf_4_6 zw_151 h47
    have h43 := zs_aload_n (i := 0) C dX4_parts_43 rfl h44
    have h40 := zs_icmp_gt (tgt := 69) C dX4_parts_40 (by decide) h69 h43
    have h38 := zs_bipush (v := 60) C dX4_parts_38 (by decide) h40
    have h37 := zs_iload_n (i := 2) C dX4_parts_37 rfl h38
    intro H locs ls L st μ r h hL hst hW hS
    obtain ⟨x0, x1, x2, rfl, rfl, h⟩ := k_X4_parts_L37_i h
    exact h37 H locs ls [some (.inr (.inr (4, x0))), some (.inl x1), some (.inl x2)] [] μ r h (hL.less ⟨rfl, rfl, rfl, trivial⟩) hst hW hS
def f_X4_parts (N : Nat) (x0 : Nat) (x1 : Int32) (μ : ZM) : Option (Int32 × ZM) :=
  (f_X4_isCouple N x0 x1 μ).bind fun r1 =>
  if ¬ r1.1 = 0 then
    (f_X3_isTogether N (x0 + 1) x1 r1.2).bind fun r2 =>
    if ¬ r2.1 = 0 then
      (f_X3_become N (x0 + 98) (x0 + 1) r2.2).bind fun r3 =>
      f_X4_parts_L37 N N x0 x1 1 r3
    else
      some ((-4), r2.2)
  else
    some ((-1), r1.2)
def g_X4_parts (N : Nat) (as : List ZV) (μ : ZM) : Option (Int32 × ZM) := match as with
  | [.inr (.inr (4, x0)), .inl x1] => f_X4_parts N x0 x1 μ
  | _ => none
theorem g_X4_parts_i {N : Nat} {as : List ZV} {μ : ZM} {r : Int32 × ZM} (h : g_X4_parts N as μ = some r) : ∃ (x0 : Nat) (x1 : Int32), as = [.inr (.inr (4, x0)), .inl x1] ∧ f_X4_parts N x0 x1 μ = some r := by
  unfold g_X4_parts at h
  split at h
  · exact ⟨_, _, rfl, h⟩
  · cases h
set_option maxRecDepth 100000 in
theorem c_X4_parts (N : Nat) : zk_C yX4_parts cX4_parts 3 (some .int) ({ frames := 3, cells := 0, slots := 0, locals := 68 } : Room) zq_I (g_X4_parts N) := by
  refine zk_met ?κ (by decide +kernel) ?hG ?body
  case body =>
    intro X E C
    have C : zk_X X E RX4 cX4_parts 3 (some .int) ({ frames := 3, cells := 0, slots := 0, locals := 68 } : Room) := C
    have e37 := s_X4_parts_L37 N C N
    have h36 := zs_istore_n (i := 2) C dX4_parts_36 rfl e37
    have h35 := zs_iconst (v := 1) C dX4_parts_35 (by decide) h36
    have h32 := zs_vV C dX4_parts_32 (m_X3_become N) zw_269 ⟨Nat.le_of_ble_eq_true rfl, Nat.le_of_ble_eq_true rfl⟩ h35
    have h29 := zs_gR C dX4_parts_29 zf_4_0 zw_145 h32
    have h28 := zs_aload_n (i := 0) C dX4_parts_28 rfl h29
    have h25 := zs_gR C dX4_parts_25 zf_4_6 zw_151 h28
    have h24 := zs_aload_n (i := 0) C dX4_parts_24 rfl h25
    have h23 := zs_iret C dX4_parts_23
    have h21 := zs_bipush (v := (-4)) C dX4_parts_21 (by decide) h23
    have h18 := zs_if_ne (tgt := 24) C dX4_parts_18 (by decide) h24 h21
    have h15 := zs_vI C dX4_parts_15 (m_X3_isTogether N) zw_193 ⟨Nat.le_of_ble_eq_true rfl, Nat.le_of_ble_eq_true rfl⟩ h18
    have h14 := zs_iload_n (i := 1) C dX4_parts_14 rfl h15
    have h11 := zs_gR C dX4_parts_11 zf_4_0 zw_145 h14
    have h10 := zs_aload_n (i := 0) C dX4_parts_10 rfl h11
    have h9 := zs_iret C dX4_parts_9
    have h8 := zs_iconst (v := (-1)) C dX4_parts_8 (by decide) h9
    have h5 := zs_if_ne (tgt := 10) C dX4_parts_5 (by decide) h10 h8
    have h2 := zs_vI C dX4_parts_2 (m_X4_isCouple N) zw_189 ⟨Nat.le_of_ble_eq_true rfl, Nat.le_of_ble_eq_true rfl⟩ h5
    have h1 := zs_iload_n (i := 1) C dX4_parts_1 rfl h2
    have h0 := zs_aload_n (i := 0) C dX4_parts_0 rfl h1
    exact h0
  case hG =>
    intro as μ r h
    obtain ⟨x0, x1, rfl, h⟩ := g_X4_parts_i h
    exact ⟨Nat.le_of_ble_eq_true rfl, h⟩
theorem m_X4_parts (N : Nat) : zk_MV yX4_parts cX4_parts 3 (some .int) ({ frames := 3, cells := 0, slots := 0, locals := 68 } : Room) zq_I (g_X4_parts N) 1 4 := ⟨c_X4_parts N, zw_387, zw_385, zw_386, zw_26, rfl, rfl, by decide +kernel, by decide, ⟨TX4, 8, rfl⟩, fun as μ r h => by obtain ⟨x0, x1, rfl, -⟩ := g_X4_parts_i h; exact ⟨_, _, rfl⟩⟩
-- LongestWed.ever()I
def f_X4_ever_L15 (N : Nat) : Nat → Nat → Int32 → Int32 → ZM → Option (Int32 × ZM)
  | 0, _, _, _, _ => none
  | n + 1, x0, x1, x2, μ =>
    if (60 : Int32) < x2 then
      some (x1, μ)
    else
      (f_X3_keeper N (x0 + 98) μ).bind fun r1 =>
      let j39 : Int32 → Option (Int32 × ZM) := fun a2 =>
        (f_X3_passYear N (x0 + 98) r1.2).bind fun r3 =>
        f_X4_ever_L15 N n x0 a2 (x2 + 1) r3
      if r1.1 < 0 then
        j39 x1
      else
        j39 (x1 ||| (1 <<< (r1.1 &&& 31)))
def k_X4_ever_L15 (N n : Nat) : ZK (Int32 × ZM) := fun L st μ => match L, st with
  | [some (.inr (.inr (4, x0))), some (.inl x1), some (.inl x2), _], [] => f_X4_ever_L15 N n x0 x1 x2 μ
  | _, _ => none
theorem k_X4_ever_L15_i {N : Nat} {n : Nat} {L : ZL} {st : List ZV} {μ : ZM} {r : Int32 × ZM} (h : k_X4_ever_L15 N n L st μ = some r) : ∃ (x0 : Nat) (x1 : Int32) (x2 : Int32) (u3 : Option ZV), L = [some (.inr (.inr (4, x0))), some (.inl x1), some (.inl x2), u3] ∧ st = [] ∧ f_X4_ever_L15 N n x0 x1 x2 μ = some r := by
  unfold k_X4_ever_L15 at h
  split at h
  · exact ⟨_, _, _, _, rfl, rfl, h⟩
  · cases h
set_option maxRecDepth 100000 in
theorem s_X4_ever_L15 (N : Nat) {X : ZX} {E : ZE} (C : zk_X X E RX4 cX4_ever 4 (some .int) ({ frames := 3, cells := 0, slots := 0, locals := 68 } : Room)) : ∀ n, zk_S X E 4 zq_I 15 (k_X4_ever_L15 N n) := by
  intro n
  induction n with
  | zero =>
    intro H locs ls L st μ r h hL hst hW hS
    obtain ⟨x0, x1, x2, u3, rfl, rfl, h⟩ := k_X4_ever_L15_i h
    exact nomatch (show none = some r from h)
  | succ n ih =>
    have h53 := zs_iret C dX4_ever_53
    have h52 := zs_iload_n (i := 1) C dX4_ever_52 rfl h53
    have h49 := zs_goto (tgt := 15) C dX4_ever_49 (by decide) ih
    have h46 := zs_iinc (n := 1) C dX4_ever_46 (by decide) h49
    have h43 := zs_vV C dX4_ever_43 (m_X3_passYear N) zw_298 ⟨Nat.le_of_ble_eq_true rfl, Nat.le_of_ble_eq_true rfl⟩ h46
    have h40 := zs_gR C dX4_ever_40 zf_4_6 zw_151 h43
    have h39 := zs_aload_n (i := 0) C dX4_ever_39 rfl h40
    have h38 := zs_istore_n (i := 1) C dX4_ever_38 rfl h39
    have h37 := zs_ior C dX4_ever_37 h38
    have h36 := zs_ishl C dX4_ever_36 h37
    have h35 := zs_iload_n (i := 3) C dX4_ever_35 rfl h36
    have h34 := zs_iconst (v := 1) C dX4_ever_34 (by decide) h35
    have h33 := zs_iload_n (i := 1) C dX4_ever_33 rfl h34
    have h30 := zs_if_lt (tgt := 39) C dX4_ever_30 (by decide) h39 h33
    have h29 := zs_iload_n (i := 3) C dX4_ever_29 rfl h30
    have h28 := zs_istore_n (i := 3) C dX4_ever_28 rfl h29
    have h25 := zs_vI C dX4_ever_25 (m_X3_keeper N) zw_280 ⟨Nat.le_of_ble_eq_true rfl, Nat.le_of_ble_eq_true rfl⟩ h28
    have h22 := zs_gR C dX4_ever_22 zf_4_6 zw_151 h25
    have h21 := zs_aload_n (i := 0) C dX4_ever_21 rfl h22
    have h18 := zs_icmp_gt (tgt := 52) C dX4_ever_18 (by decide) h52 h21
    have h16 := zs_bipush (v := 60) C dX4_ever_16 (by decide) h18
    have h15 := zs_iload_n (i := 2) C dX4_ever_15 rfl h16
    intro H locs ls L st μ r h hL hst hW hS
    obtain ⟨x0, x1, x2, u3, rfl, rfl, h⟩ := k_X4_ever_L15_i h
    exact h15 H locs ls [some (.inr (.inr (4, x0))), some (.inl x1), some (.inl x2), none] [] μ r h (hL.less ⟨rfl, rfl, rfl, trivial⟩) hst hW hS
def f_X4_ever (N : Nat) (x0 : Nat) (μ : ZM) : Option (Int32 × ZM) :=
  (f_X3_become N (x0 + 98) (x0 + 1) μ).bind fun r1 =>
  f_X4_ever_L15 N N x0 0 0 r1
def g_X4_ever (N : Nat) (as : List ZV) (μ : ZM) : Option (Int32 × ZM) := match as with
  | [.inr (.inr (4, x0))] => f_X4_ever N x0 μ
  | _ => none
theorem g_X4_ever_i {N : Nat} {as : List ZV} {μ : ZM} {r : Int32 × ZM} (h : g_X4_ever N as μ = some r) : ∃ (x0 : Nat), as = [.inr (.inr (4, x0))] ∧ f_X4_ever N x0 μ = some r := by
  unfold g_X4_ever at h
  split at h
  · exact ⟨_, rfl, h⟩
  · cases h
set_option maxRecDepth 100000 in
theorem c_X4_ever (N : Nat) : zk_C yX4_ever cX4_ever 4 (some .int) ({ frames := 3, cells := 0, slots := 0, locals := 68 } : Room) zq_I (g_X4_ever N) := by
  refine zk_met ?κ (by decide +kernel) ?hG ?body
  case body =>
    intro X E C
    have C : zk_X X E RX4 cX4_ever 4 (some .int) ({ frames := 3, cells := 0, slots := 0, locals := 68 } : Room) := C
    have e15 := s_X4_ever_L15 N C N
    have h14 := zs_istore_n (i := 2) C dX4_ever_14 rfl e15
    have h13 := zs_iconst (v := 0) C dX4_ever_13 (by decide) h14
    have h10 := zs_vV C dX4_ever_10 (m_X3_become N) zw_269 ⟨Nat.le_of_ble_eq_true rfl, Nat.le_of_ble_eq_true rfl⟩ h13
    have h7 := zs_gR C dX4_ever_7 zf_4_0 zw_145 h10
    have h6 := zs_aload_n (i := 0) C dX4_ever_6 rfl h7
    have h3 := zs_gR C dX4_ever_3 zf_4_6 zw_151 h6
    have h2 := zs_aload_n (i := 0) C dX4_ever_2 rfl h3
    have h1 := zs_istore_n (i := 1) C dX4_ever_1 rfl h2
    have h0 := zs_iconst (v := 0) C dX4_ever_0 (by decide) h1
    exact h0
  case hG =>
    intro as μ r h
    obtain ⟨x0, rfl, h⟩ := g_X4_ever_i h
    exact ⟨Nat.le_of_ble_eq_true rfl, h⟩
theorem m_X4_ever (N : Nat) : zk_MV yX4_ever cX4_ever 4 (some .int) ({ frames := 3, cells := 0, slots := 0, locals := 68 } : Room) zq_I (g_X4_ever N) 0 4 := ⟨c_X4_ever N, zw_391, zw_389, zw_390, zw_26, rfl, rfl, by decide +kernel, by decide, ⟨TX4, 8, rfl⟩, fun as μ r h => by obtain ⟨x0, rfl, -⟩ := g_X4_ever_i h; exact ⟨_, _, rfl⟩⟩
-- LongestWed.keepsWithout(III)Z
def f_X4_keepsWithout_L29 (N : Nat) : Nat → Nat → Int32 → Int32 → Int32 → ZM → Option (Int32 × ZM)
  | 0, _, _, _, _, _ => none
  | n + 1, x0, x2, x3, x4, μ =>
    let j59 : ZM → Option (Int32 × ZM) := fun μ1 =>
      (f_X3_keeper N (x0 + 98) μ1).bind fun r2 =>
      if ¬ r2.1 = x2 then
        zk_zr 0 r2.2
      else
        zk_zr 1 r2.2
    if x3 ≤ x4 then
      j59 μ
    else
      (f_X3_isTogether N (x0 + 98) x2 μ).bind fun r3 =>
      if r3.1 = 0 then
        j59 r3.2
      else
        (f_X3_passYear N (x0 + 98) r3.2).bind fun r4 =>
        f_X4_keepsWithout_L29 N n x0 x2 x3 (x4 + 1) r4
def k_X4_keepsWithout_L29 (N n : Nat) : ZK (Int32 × ZM) := fun L st μ => match L, st with
  | [some (.inr (.inr (4, x0))), _, some (.inl x2), some (.inl x3), some (.inl x4)], [] => f_X4_keepsWithout_L29 N n x0 x2 x3 x4 μ
  | _, _ => none
theorem k_X4_keepsWithout_L29_i {N : Nat} {n : Nat} {L : ZL} {st : List ZV} {μ : ZM} {r : Int32 × ZM} (h : k_X4_keepsWithout_L29 N n L st μ = some r) : ∃ (x0 : Nat) (x2 : Int32) (x3 : Int32) (x4 : Int32) (u1 : Option ZV), L = [some (.inr (.inr (4, x0))), u1, some (.inl x2), some (.inl x3), some (.inl x4)] ∧ st = [] ∧ f_X4_keepsWithout_L29 N n x0 x2 x3 x4 μ = some r := by
  unfold k_X4_keepsWithout_L29 at h
  split at h
  · exact ⟨_, _, _, _, _, rfl, rfl, h⟩
  · cases h
set_option maxRecDepth 100000 in
theorem s_X4_keepsWithout_L29 (N : Nat) {X : ZX} {E : ZE} (C : zk_X X E RX4 cX4_keepsWithout 5 (some .boolean) ({ frames := 3, cells := 0, slots := 0, locals := 68 } : Room)) : ∀ n, zk_S X E 5 zq_I 29 (k_X4_keepsWithout_L29 N n) := by
  intro n
  induction n with
  | zero =>
    intro H locs ls L st μ r h hL hst hW hS
    obtain ⟨x0, x2, x3, x4, u1, rfl, rfl, h⟩ := k_X4_keepsWithout_L29_i h
    exact nomatch (show none = some r from h)
  | succ n ih =>
    have h75 := zs_zret C dX4_keepsWithout_75
    have h74 := zs_iconst (v := 0) C dX4_keepsWithout_74 (by decide) h75
    have h71 := zs_goto (tgt := 75) C dX4_keepsWithout_71 (by decide) h75
    have h70 := zs_iconst (v := 1) C dX4_keepsWithout_70 (by decide) h71
    have h67 := zs_icmp_ne (tgt := 74) C dX4_keepsWithout_67 (by decide) h74 h70
    have h66 := zs_iload_n (i := 2) C dX4_keepsWithout_66 rfl h67
    have h63 := zs_vI C dX4_keepsWithout_63 (m_X3_keeper N) zw_280 ⟨Nat.le_of_ble_eq_true rfl, Nat.le_of_ble_eq_true rfl⟩ h66
    have h60 := zs_gR C dX4_keepsWithout_60 zf_4_6 zw_151 h63
    have h59 := zs_aload_n (i := 0) C dX4_keepsWithout_59 rfl h60
    have h56 := zs_goto (tgt := 29) C dX4_keepsWithout_56 (by decide) ih
    have h53 := zs_iinc (n := 1) C dX4_keepsWithout_53 (by decide) h56
    have h50 := zs_vV C dX4_keepsWithout_50 (m_X3_passYear N) zw_298 ⟨Nat.le_of_ble_eq_true rfl, Nat.le_of_ble_eq_true rfl⟩ h53
    have h47 := zs_gR C dX4_keepsWithout_47 zf_4_6 zw_151 h50
    have h46 := zs_aload_n (i := 0) C dX4_keepsWithout_46 rfl h47
    have h43 := zs_if_eq (tgt := 59) C dX4_keepsWithout_43 (by decide) h59 h46
    have h40 := zs_vI C dX4_keepsWithout_40 (m_X3_isTogether N) zw_193 ⟨Nat.le_of_ble_eq_true rfl, Nat.le_of_ble_eq_true rfl⟩ h43
    have h39 := zs_iload_n (i := 2) C dX4_keepsWithout_39 rfl h40
    have h36 := zs_gR C dX4_keepsWithout_36 zf_4_6 zw_151 h39
    have h35 := zs_aload_n (i := 0) C dX4_keepsWithout_35 rfl h36
    have h32 := zs_icmp_ge (tgt := 59) C dX4_keepsWithout_32 (by decide) h59 h35
    have h31 := zs_iload_n (i := 3) C dX4_keepsWithout_31 rfl h32
    have h29 := zs_iload (i := 4) C dX4_keepsWithout_29 h31
    intro H locs ls L st μ r h hL hst hW hS
    obtain ⟨x0, x2, x3, x4, u1, rfl, rfl, h⟩ := k_X4_keepsWithout_L29_i h
    exact h29 H locs ls [some (.inr (.inr (4, x0))), none, some (.inl x2), some (.inl x3), some (.inl x4)] [] μ r h (hL.less ⟨rfl, rfl, rfl, rfl, trivial⟩) hst hW hS
def f_X4_keepsWithout (N : Nat) (x0 : Nat) (x1 : Int32) (x2 : Int32) (x3 : Int32) (μ : ZM) : Option (Int32 × ZM) :=
  (f_X3_become N (x0 + 98) (x0 + 1) μ).bind fun r1 =>
  let μ2 := zk_si r1 (x0 + 98) 5 ((r1.1 (x0 + 98) 5) &&& (x1 ^^^ (-1)))
  f_X4_keepsWithout_L29 N N x0 x2 x3 0 μ2
def g_X4_keepsWithout (N : Nat) (as : List ZV) (μ : ZM) : Option (Int32 × ZM) := match as with
  | [.inr (.inr (4, x0)), .inl x1, .inl x2, .inl x3] => f_X4_keepsWithout N x0 x1 x2 x3 μ
  | _ => none
theorem g_X4_keepsWithout_i {N : Nat} {as : List ZV} {μ : ZM} {r : Int32 × ZM} (h : g_X4_keepsWithout N as μ = some r) : ∃ (x0 : Nat) (x1 : Int32) (x2 : Int32) (x3 : Int32), as = [.inr (.inr (4, x0)), .inl x1, .inl x2, .inl x3] ∧ f_X4_keepsWithout N x0 x1 x2 x3 μ = some r := by
  unfold g_X4_keepsWithout at h
  split at h
  · exact ⟨_, _, _, _, rfl, h⟩
  · cases h
set_option maxRecDepth 100000 in
theorem c_X4_keepsWithout (N : Nat) : zk_C yX4_keepsWithout cX4_keepsWithout 5 (some .boolean) ({ frames := 3, cells := 0, slots := 0, locals := 68 } : Room) zq_I (g_X4_keepsWithout N) := by
  refine zk_met ?κ (by decide +kernel) ?hG ?body
  case body =>
    intro X E C
    have C : zk_X X E RX4 cX4_keepsWithout 5 (some .boolean) ({ frames := 3, cells := 0, slots := 0, locals := 68 } : Room) := C
    have e29 := s_X4_keepsWithout_L29 N C N
    have h27 := zs_istore (i := 4) C dX4_keepsWithout_27 e29
    have h26 := zs_iconst (v := 0) C dX4_keepsWithout_26 (by decide) h27
    have h23 := zs_pI C dX4_keepsWithout_23 zf_3_5 zw_60 rfl (by decide +kernel) h26
    have h22 := zs_iand C dX4_keepsWithout_22 h23
    have h21 := zs_ixor C dX4_keepsWithout_21 h22
    have h20 := zs_iconst (v := (-1)) C dX4_keepsWithout_20 (by decide) h21
    have h19 := zs_iload_n (i := 1) C dX4_keepsWithout_19 rfl h20
    have h16 := zs_gI C dX4_keepsWithout_16 zf_3_5 zw_60 h19
    have h15 := zs_dup C dX4_keepsWithout_15 h16
    have h12 := zs_gR C dX4_keepsWithout_12 zf_4_6 zw_151 h15
    have h11 := zs_aload_n (i := 0) C dX4_keepsWithout_11 rfl h12
    have h8 := zs_vV C dX4_keepsWithout_8 (m_X3_become N) zw_269 ⟨Nat.le_of_ble_eq_true rfl, Nat.le_of_ble_eq_true rfl⟩ h11
    have h5 := zs_gR C dX4_keepsWithout_5 zf_4_0 zw_145 h8
    have h4 := zs_aload_n (i := 0) C dX4_keepsWithout_4 rfl h5
    have h1 := zs_gR C dX4_keepsWithout_1 zf_4_6 zw_151 h4
    have h0 := zs_aload_n (i := 0) C dX4_keepsWithout_0 rfl h1
    exact h0
  case hG =>
    intro as μ r h
    obtain ⟨x0, x1, x2, x3, rfl, h⟩ := g_X4_keepsWithout_i h
    exact ⟨Nat.le_of_ble_eq_true rfl, h⟩
theorem m_X4_keepsWithout (N : Nat) : zk_MV yX4_keepsWithout cX4_keepsWithout 5 (some .boolean) ({ frames := 3, cells := 0, slots := 0, locals := 68 } : Room) zq_I (g_X4_keepsWithout N) 3 4 := ⟨c_X4_keepsWithout N, zw_409, zw_408, zw_4, zw_26, rfl, rfl, by decide +kernel, by decide, ⟨TX4, 8, rfl⟩, fun as μ r h => by obtain ⟨x0, x1, x2, x3, rfl, -⟩ := g_X4_keepsWithout_i h; exact ⟨_, _, rfl⟩⟩
-- LongestWed.fewestRivals(II)I
def f_X4_fewestRivals_L35 (N : Nat) : Nat → Nat → Int32 → Int32 → Int32 → Int32 → Int32 → ZM → Option (Int32 × ZM)
  | 0, _, _, _, _, _, _, _ => none
  | n + 1, x0, x1, x2, x3, x4, x5, μ =>
    if x3 < x5 then
      some (x4, μ)
    else
      let j55 : Int32 → Option (Int32 × ZM) := fun b1 =>
        let j80 : Int32 → ZM → Option (Int32 × ZM) := fun b2 μ3 =>
          if b1 = 0 then
            f_X4_fewestRivals_L35 N n x0 x1 x2 x3 x4 (x5 + 1) μ3
          else
            if b2 = 0 then
              f_X4_fewestRivals_L35 N n x0 x1 x2 x3 x4 (x5 + 1) μ3
            else
              (f_X4_keepsWithout N x0 x5 x1 x2 μ3).bind fun r4 =>
              if r4.1 = 0 then
                f_X4_fewestRivals_L35 N n x0 x1 x2 x3 x4 (x5 + 1) r4.2
              else
                f_X4_fewestRivals_L35 N n x0 x1 x2 x3 x5 (x5 + 1) r4.2
        let j75 : ZM → Option (Int32 × ZM) := fun μ5 =>
          j80 1 μ5
        if x4 < 0 then
          j75 μ
        else
          (f_J6_bitCount_0f7a4 N x5 μ).bind fun r6 =>
          (f_J6_bitCount_0f7a4 N x4 r6.2).bind fun r7 =>
          if r7.1 ≤ r6.1 then
            j80 0 r7.2
          else
            j75 r7.2
      if ¬ (x5 &&& (x3 ^^^ (-1))) = 0 then
        j55 0
      else
        j55 1
def k_X4_fewestRivals_L35 (N n : Nat) : ZK (Int32 × ZM) := fun L st μ => match L, st with
  | [some (.inr (.inr (4, x0))), some (.inl x1), some (.inl x2), some (.inl x3), some (.inl x4), some (.inl x5), _, _], [] => f_X4_fewestRivals_L35 N n x0 x1 x2 x3 x4 x5 μ
  | _, _ => none
theorem k_X4_fewestRivals_L35_i {N : Nat} {n : Nat} {L : ZL} {st : List ZV} {μ : ZM} {r : Int32 × ZM} (h : k_X4_fewestRivals_L35 N n L st μ = some r) : ∃ (x0 : Nat) (x1 : Int32) (x2 : Int32) (x3 : Int32) (x4 : Int32) (x5 : Int32) (u6 : Option ZV) (u7 : Option ZV), L = [some (.inr (.inr (4, x0))), some (.inl x1), some (.inl x2), some (.inl x3), some (.inl x4), some (.inl x5), u6, u7] ∧ st = [] ∧ f_X4_fewestRivals_L35 N n x0 x1 x2 x3 x4 x5 μ = some r := by
  unfold k_X4_fewestRivals_L35 at h
  split at h
  · exact ⟨_, _, _, _, _, _, _, _, rfl, rfl, h⟩
  · cases h
set_option maxRecDepth 100000 in
theorem s_X4_fewestRivals_L35 (N : Nat) {X : ZX} {E : ZE} (C : zk_X X E RX4 cX4_fewestRivals 8 (some .int) ({ frames := 4, cells := 0, slots := 0, locals := 92 } : Room)) : ∀ n, zk_S X E 8 zq_I 35 (k_X4_fewestRivals_L35 N n) := by
  intro n
  induction n with
  | zero =>
    intro H locs ls L st μ r h hL hst hW hS
    obtain ⟨x0, x1, x2, x3, x4, x5, u6, u7, rfl, rfl, h⟩ := k_X4_fewestRivals_L35_i h
    exact nomatch (show none = some r from h)
  | succ n ih =>
    have h115 := zs_iret C dX4_fewestRivals_115
    have h113 := zs_iload (i := 4) C dX4_fewestRivals_113 h115
    have h110 := zs_goto (tgt := 35) C dX4_fewestRivals_110 (by decide) ih
    have h107 := zs_iinc (n := 1) C dX4_fewestRivals_107 (by decide) h110
    have h105 := zs_istore (i := 4) C dX4_fewestRivals_105 h107
    have h103 := zs_iload (i := 5) C dX4_fewestRivals_103 h105
    have h100 := zs_if_eq (tgt := 107) C dX4_fewestRivals_100 (by decide) h107 h103
    have h97 := zs_vI C dX4_fewestRivals_97 (m_X4_keepsWithout N) zw_406 ⟨Nat.le_of_ble_eq_true rfl, Nat.le_of_ble_eq_true rfl⟩ h100
    have h96 := zs_iload_n (i := 2) C dX4_fewestRivals_96 rfl h97
    have h95 := zs_iload_n (i := 1) C dX4_fewestRivals_95 rfl h96
    have h93 := zs_iload (i := 5) C dX4_fewestRivals_93 h95
    have h92 := zs_aload_n (i := 0) C dX4_fewestRivals_92 rfl h93
    have h89 := zs_if_eq (tgt := 107) C dX4_fewestRivals_89 (by decide) h107 h92
    have h87 := zs_iload (i := 7) C dX4_fewestRivals_87 h89
    have h84 := zs_if_eq (tgt := 107) C dX4_fewestRivals_84 (by decide) h107 h87
    have h82 := zs_iload (i := 6) C dX4_fewestRivals_82 h84
    have h80 := zs_istore (i := 7) C dX4_fewestRivals_80 h82
    have h79 := zs_iconst (v := 0) C dX4_fewestRivals_79 (by decide) h80
    have h76 := zs_goto (tgt := 80) C dX4_fewestRivals_76 (by decide) h80
    have h75 := zs_iconst (v := 1) C dX4_fewestRivals_75 (by decide) h76
    have h72 := zs_icmp_ge (tgt := 79) C dX4_fewestRivals_72 (by decide) h79 h75
    have h69 := zs_sI C dX4_fewestRivals_69 (m_J6_bitCount_0f7a4 N) zw_400 ⟨Nat.le_of_ble_eq_true rfl, Nat.le_of_ble_eq_true rfl⟩ h72
    have h67 := zs_iload (i := 4) C dX4_fewestRivals_67 h69
    have h64 := zs_sI C dX4_fewestRivals_64 (m_J6_bitCount_0f7a4 N) zw_400 ⟨Nat.le_of_ble_eq_true rfl, Nat.le_of_ble_eq_true rfl⟩ h67
    have h62 := zs_iload (i := 5) C dX4_fewestRivals_62 h64
    have h59 := zs_if_lt (tgt := 75) C dX4_fewestRivals_59 (by decide) h75 h62
    have h57 := zs_iload (i := 4) C dX4_fewestRivals_57 h59
    have h55 := zs_istore (i := 6) C dX4_fewestRivals_55 h57
    have h54 := zs_iconst (v := 0) C dX4_fewestRivals_54 (by decide) h55
    have h51 := zs_goto (tgt := 55) C dX4_fewestRivals_51 (by decide) h55
    have h50 := zs_iconst (v := 1) C dX4_fewestRivals_50 (by decide) h51
    have h47 := zs_if_ne (tgt := 54) C dX4_fewestRivals_47 (by decide) h54 h50
    have h46 := zs_iand C dX4_fewestRivals_46 h47
    have h45 := zs_ixor C dX4_fewestRivals_45 h46
    have h44 := zs_iconst (v := (-1)) C dX4_fewestRivals_44 (by decide) h45
    have h43 := zs_iload_n (i := 3) C dX4_fewestRivals_43 rfl h44
    have h41 := zs_iload (i := 5) C dX4_fewestRivals_41 h43
    have h38 := zs_icmp_gt (tgt := 113) C dX4_fewestRivals_38 (by decide) h113 h41
    have h37 := zs_iload_n (i := 3) C dX4_fewestRivals_37 rfl h38
    have h35 := zs_iload (i := 5) C dX4_fewestRivals_35 h37
    intro H locs ls L st μ r h hL hst hW hS
    obtain ⟨x0, x1, x2, x3, x4, x5, u6, u7, rfl, rfl, h⟩ := k_X4_fewestRivals_L35_i h
    exact h35 H locs ls [some (.inr (.inr (4, x0))), some (.inl x1), some (.inl x2), some (.inl x3), some (.inl x4), some (.inl x5), none, none] [] μ r h (hL.less ⟨rfl, rfl, rfl, rfl, rfl, rfl, trivial⟩) hst hW hS
def f_X4_fewestRivals (N : Nat) (x0 : Nat) (x1 : Int32) (x2 : Int32) (μ : ZM) : Option (Int32 × ZM) :=
  (f_X3_isTogether N (x0 + 1) x1 μ).bind fun r1 =>
  if ¬ r1.1 = 0 then
    f_X4_fewestRivals_L35 N N x0 x1 x2 ((r1.2.1 (x0 + 1) 5) &&& ((1 <<< (x1 &&& 31)) ^^^ (-1))) (-4) 0 r1.2
  else
    some ((-4), r1.2)
def g_X4_fewestRivals (N : Nat) (as : List ZV) (μ : ZM) : Option (Int32 × ZM) := match as with
  | [.inr (.inr (4, x0)), .inl x1, .inl x2] => f_X4_fewestRivals N x0 x1 x2 μ
  | _ => none
theorem g_X4_fewestRivals_i {N : Nat} {as : List ZV} {μ : ZM} {r : Int32 × ZM} (h : g_X4_fewestRivals N as μ = some r) : ∃ (x0 : Nat) (x1 : Int32) (x2 : Int32), as = [.inr (.inr (4, x0)), .inl x1, .inl x2] ∧ f_X4_fewestRivals N x0 x1 x2 μ = some r := by
  unfold g_X4_fewestRivals at h
  split at h
  · exact ⟨_, _, _, rfl, h⟩
  · cases h
set_option maxRecDepth 100000 in
theorem c_X4_fewestRivals (N : Nat) : zk_C yX4_fewestRivals cX4_fewestRivals 8 (some .int) ({ frames := 4, cells := 0, slots := 0, locals := 92 } : Room) zq_I (g_X4_fewestRivals N) := by
  refine zk_met ?κ (by decide +kernel) ?hG ?body
  case body =>
    intro X E C
    have C : zk_X X E RX4 cX4_fewestRivals 8 (some .int) ({ frames := 4, cells := 0, slots := 0, locals := 92 } : Room) := C
    have e35 := s_X4_fewestRivals_L35 N C N
    have h33 := zs_istore (i := 5) C dX4_fewestRivals_33 e35
    have h32 := zs_iconst (v := 0) C dX4_fewestRivals_32 (by decide) h33
    have h30 := zs_istore (i := 4) C dX4_fewestRivals_30 h32
    have h28 := zs_bipush (v := (-4)) C dX4_fewestRivals_28 (by decide) h30
    have h27 := zs_istore_n (i := 3) C dX4_fewestRivals_27 rfl h28
    have h26 := zs_iand C dX4_fewestRivals_26 h27
    have h25 := zs_ixor C dX4_fewestRivals_25 h26
    have h24 := zs_iconst (v := (-1)) C dX4_fewestRivals_24 (by decide) h25
    have h23 := zs_ishl C dX4_fewestRivals_23 h24
    have h22 := zs_iload_n (i := 1) C dX4_fewestRivals_22 rfl h23
    have h21 := zs_iconst (v := 1) C dX4_fewestRivals_21 (by decide) h22
    have h18 := zs_gI C dX4_fewestRivals_18 zf_3_5 zw_60 h21
    have h15 := zs_gR C dX4_fewestRivals_15 zf_4_0 zw_145 h18
    have h14 := zs_aload_n (i := 0) C dX4_fewestRivals_14 rfl h15
    have h13 := zs_iret C dX4_fewestRivals_13
    have h11 := zs_bipush (v := (-4)) C dX4_fewestRivals_11 (by decide) h13
    have h8 := zs_if_ne (tgt := 14) C dX4_fewestRivals_8 (by decide) h14 h11
    have h5 := zs_vI C dX4_fewestRivals_5 (m_X3_isTogether N) zw_193 ⟨Nat.le_of_ble_eq_true rfl, Nat.le_of_ble_eq_true rfl⟩ h8
    have h4 := zs_iload_n (i := 1) C dX4_fewestRivals_4 rfl h5
    have h1 := zs_gR C dX4_fewestRivals_1 zf_4_0 zw_145 h4
    have h0 := zs_aload_n (i := 0) C dX4_fewestRivals_0 rfl h1
    exact h0
  case hG =>
    intro as μ r h
    obtain ⟨x0, x1, x2, rfl, h⟩ := g_X4_fewestRivals_i h
    exact ⟨Nat.le_of_ble_eq_true rfl, h⟩
theorem m_X4_fewestRivals (N : Nat) : zk_MV yX4_fewestRivals cX4_fewestRivals 8 (some .int) ({ frames := 4, cells := 0, slots := 0, locals := 92 } : Room) zq_I (g_X4_fewestRivals N) 2 4 := ⟨c_X4_fewestRivals N, zw_399, zw_398, zw_3, zw_26, rfl, rfl, by decide +kernel, by decide, ⟨TX4, 8, rfl⟩, fun as μ r h => by obtain ⟨x0, x1, x2, rfl, -⟩ := g_X4_fewestRivals_i h; exact ⟨_, _, rfl⟩⟩
-- LongestWed.rivals(III)I
def f_X4_rivals (N : Nat) (x0 : Nat) (x1 : Int32) (x2 : Int32) (x3 : Int32) (μ : ZM) : Option (Int32 × ZM) :=
  (f_X4_isCouple N x0 x1 μ).bind fun r1 =>
  if r1.1 = 0 then
    some ((-1), r1.2)
  else
    (f_X4_within N x2 0 40 r1.2).bind fun r2 =>
    if r2.1 = 0 then
      some ((-1), r2.2)
    else
      (f_X4_within N x3 0 1 r2.2).bind fun r3 =>
      if ¬ r3.1 = 0 then
        (f_X4_fewestRivals N x0 x1 x2 r3.2).bind fun r4 =>
        if 0 ≤ r4.1 then
          if ¬ x3 = 0 then
            some (r4.1, r4.2)
          else
            (f_J6_bitCount_0f7a4 N r4.1 r4.2).bind fun r5 =>
            some (r5.1, r5.2)
        else
          some ((-4), r4.2)
      else
        some ((-1), r3.2)
def g_X4_rivals (N : Nat) (as : List ZV) (μ : ZM) : Option (Int32 × ZM) := match as with
  | [.inr (.inr (4, x0)), .inl x1, .inl x2, .inl x3] => f_X4_rivals N x0 x1 x2 x3 μ
  | _ => none
theorem g_X4_rivals_i {N : Nat} {as : List ZV} {μ : ZM} {r : Int32 × ZM} (h : g_X4_rivals N as μ = some r) : ∃ (x0 : Nat) (x1 : Int32) (x2 : Int32) (x3 : Int32), as = [.inr (.inr (4, x0)), .inl x1, .inl x2, .inl x3] ∧ f_X4_rivals N x0 x1 x2 x3 μ = some r := by
  unfold g_X4_rivals at h
  split at h
  · exact ⟨_, _, _, _, rfl, h⟩
  · cases h
set_option maxRecDepth 100000 in
theorem c_X4_rivals (N : Nat) : zk_C yX4_rivals cX4_rivals 5 (some .int) ({ frames := 5, cells := 0, slots := 0, locals := 119 } : Room) zq_I (g_X4_rivals N) := by
  refine zk_met ?κ (by decide +kernel) ?hG ?body
  case body =>
    intro X E C
    have C : zk_X X E RX4 cX4_rivals 5 (some .int) ({ frames := 5, cells := 0, slots := 0, locals := 119 } : Room) := C
    have h59 := zs_iret C dX4_rivals_59
    have h57 := zs_iload (i := 4) C dX4_rivals_57 h59
    have h54 := zs_goto (tgt := 59) C dX4_rivals_54 (by decide) h59
    have h51 := zs_sI C dX4_rivals_51 (m_J6_bitCount_0f7a4 N) zw_400 ⟨Nat.le_of_ble_eq_true rfl, Nat.le_of_ble_eq_true rfl⟩ h54
    have h49 := zs_iload (i := 4) C dX4_rivals_49 h51
    have h46 := zs_if_ne (tgt := 57) C dX4_rivals_46 (by decide) h57 h49
    have h45 := zs_iload_n (i := 3) C dX4_rivals_45 rfl h46
    have h44 := zs_iret C dX4_rivals_44
    have h42 := zs_bipush (v := (-4)) C dX4_rivals_42 (by decide) h44
    have h39 := zs_if_ge (tgt := 45) C dX4_rivals_39 (by decide) h45 h42
    have h37 := zs_iload (i := 4) C dX4_rivals_37 h39
    have h35 := zs_istore (i := 4) C dX4_rivals_35 h37
    have h32 := zs_vI C dX4_rivals_32 (m_X4_fewestRivals N) zw_396 ⟨Nat.le_of_ble_eq_true rfl, Nat.le_of_ble_eq_true rfl⟩ h35
    have h31 := zs_iload_n (i := 2) C dX4_rivals_31 rfl h32
    have h30 := zs_iload_n (i := 1) C dX4_rivals_30 rfl h31
    have h29 := zs_aload_n (i := 0) C dX4_rivals_29 rfl h30
    have h28 := zs_iret C dX4_rivals_28
    have h27 := zs_iconst (v := (-1)) C dX4_rivals_27 (by decide) h28
    have h24 := zs_if_ne (tgt := 29) C dX4_rivals_24 (by decide) h29 h27
    have h21 := zs_sI C dX4_rivals_21 (m_X4_within N) zw_174 ⟨Nat.le_of_ble_eq_true rfl, Nat.le_of_ble_eq_true rfl⟩ h24
    have h20 := zs_iconst (v := 1) C dX4_rivals_20 (by decide) h21
    have h19 := zs_iconst (v := 0) C dX4_rivals_19 (by decide) h20
    have h18 := zs_iload_n (i := 3) C dX4_rivals_18 rfl h19
    have h15 := zs_if_eq (tgt := 27) C dX4_rivals_15 (by decide) h27 h18
    have h12 := zs_sI C dX4_rivals_12 (m_X4_within N) zw_174 ⟨Nat.le_of_ble_eq_true rfl, Nat.le_of_ble_eq_true rfl⟩ h15
    have h10 := zs_bipush (v := 40) C dX4_rivals_10 (by decide) h12
    have h9 := zs_iconst (v := 0) C dX4_rivals_9 (by decide) h10
    have h8 := zs_iload_n (i := 2) C dX4_rivals_8 rfl h9
    have h5 := zs_if_eq (tgt := 27) C dX4_rivals_5 (by decide) h27 h8
    have h2 := zs_vI C dX4_rivals_2 (m_X4_isCouple N) zw_189 ⟨Nat.le_of_ble_eq_true rfl, Nat.le_of_ble_eq_true rfl⟩ h5
    have h1 := zs_iload_n (i := 1) C dX4_rivals_1 rfl h2
    have h0 := zs_aload_n (i := 0) C dX4_rivals_0 rfl h1
    exact h0
  case hG =>
    intro as μ r h
    obtain ⟨x0, x1, x2, x3, rfl, h⟩ := g_X4_rivals_i h
    exact ⟨Nat.le_of_ble_eq_true rfl, h⟩
theorem m_X4_rivals (N : Nat) : zk_MV yX4_rivals cX4_rivals 5 (some .int) ({ frames := 5, cells := 0, slots := 0, locals := 119 } : Room) zq_I (g_X4_rivals N) 3 4 := ⟨c_X4_rivals N, zw_395, zw_393, zw_394, zw_26, rfl, rfl, by decide +kernel, by decide, ⟨TX4, 8, rfl⟩, fun as μ r h => by obtain ⟨x0, x1, x2, x3, rfl, -⟩ := g_X4_rivals_i h; exact ⟨_, _, rfl⟩⟩
-- LongestWed.needs(II)I
def f_X4_needs_L36 (N : Nat) : Nat → Nat → Int32 → Int32 → Int32 → ZM → Option (Int32 × ZM)
  | 0, _, _, _, _, _ => none
  | n + 1, x0, x1, x2, x3, μ =>
    if (19 : Int32) < x3 then
      some ((-4), μ)
    else
      (f_X3_become N (x0 + 98) (x0 + 1) μ).bind fun r1 =>
      (f_X3_better N (x0 + 98) x1 x3 r1).bind fun r2 =>
      (f_X3_passYears N (x0 + 98) x2 r2).bind fun r3 =>
      (f_X3_isTogether N (x0 + 98) x1 r3).bind fun r4 =>
      if r4.1 = 0 then
        f_X4_needs_L36 N n x0 x1 x2 (x3 + 1) r4.2
      else
        some (x3, r4.2)
def k_X4_needs_L36 (N n : Nat) : ZK (Int32 × ZM) := fun L st μ => match L, st with
  | [some (.inr (.inr (4, x0))), some (.inl x1), some (.inl x2), some (.inl x3)], [] => f_X4_needs_L36 N n x0 x1 x2 x3 μ
  | _, _ => none
theorem k_X4_needs_L36_i {N : Nat} {n : Nat} {L : ZL} {st : List ZV} {μ : ZM} {r : Int32 × ZM} (h : k_X4_needs_L36 N n L st μ = some r) : ∃ (x0 : Nat) (x1 : Int32) (x2 : Int32) (x3 : Int32), L = [some (.inr (.inr (4, x0))), some (.inl x1), some (.inl x2), some (.inl x3)] ∧ st = [] ∧ f_X4_needs_L36 N n x0 x1 x2 x3 μ = some r := by
  unfold k_X4_needs_L36 at h
  split at h
  · exact ⟨_, _, _, _, rfl, rfl, h⟩
  · cases h
set_option maxRecDepth 100000 in
theorem s_X4_needs_L36 (N : Nat) {X : ZX} {E : ZE} (C : zk_X X E RX4 cX4_needs 4 (some .int) ({ frames := 4, cells := 0, slots := 0, locals := 90 } : Room)) : ∀ n, zk_S X E 4 zq_I 36 (k_X4_needs_L36 N n) := by
  intro n
  induction n with
  | zero =>
    intro H locs ls L st μ r h hL hst hW hS
    obtain ⟨x0, x1, x2, x3, rfl, rfl, h⟩ := k_X4_needs_L36_i h
    exact nomatch (show none = some r from h)
  | succ n ih =>
    have h91 := zs_iret C dX4_needs_91
    have h89 := zs_bipush (v := (-4)) C dX4_needs_89 (by decide) h91
    have h86 := zs_goto (tgt := 36) C dX4_needs_86 (by decide) ih
    have h83 := zs_iinc (n := 1) C dX4_needs_83 (by decide) h86
    have h82 := zs_iret C dX4_needs_82
    have h81 := zs_iload_n (i := 3) C dX4_needs_81 rfl h82
    have h78 := zs_if_eq (tgt := 83) C dX4_needs_78 (by decide) h83 h81
    have h75 := zs_vI C dX4_needs_75 (m_X3_isTogether N) zw_193 ⟨Nat.le_of_ble_eq_true rfl, Nat.le_of_ble_eq_true rfl⟩ h78
    have h74 := zs_iload_n (i := 1) C dX4_needs_74 rfl h75
    have h71 := zs_gR C dX4_needs_71 zf_4_6 zw_151 h74
    have h70 := zs_aload_n (i := 0) C dX4_needs_70 rfl h71
    have h67 := zs_vV C dX4_needs_67 (m_X3_passYears N) zw_359 ⟨Nat.le_of_ble_eq_true rfl, Nat.le_of_ble_eq_true rfl⟩ h70
    have h66 := zs_iload_n (i := 2) C dX4_needs_66 rfl h67
    have h63 := zs_gR C dX4_needs_63 zf_4_6 zw_151 h66
    have h62 := zs_aload_n (i := 0) C dX4_needs_62 rfl h63
    have h59 := zs_vV C dX4_needs_59 (m_X3_better N) zw_314 ⟨Nat.le_of_ble_eq_true rfl, Nat.le_of_ble_eq_true rfl⟩ h62
    have h58 := zs_iload_n (i := 3) C dX4_needs_58 rfl h59
    have h57 := zs_iload_n (i := 1) C dX4_needs_57 rfl h58
    have h54 := zs_gR C dX4_needs_54 zf_4_6 zw_151 h57
    have h53 := zs_aload_n (i := 0) C dX4_needs_53 rfl h54
    have h50 := zs_vV C dX4_needs_50 (m_X3_become N) zw_269 ⟨Nat.le_of_ble_eq_true rfl, Nat.le_of_ble_eq_true rfl⟩ h53
    have h47 := zs_gR C dX4_needs_47 zf_4_0 zw_145 h50
    have h46 := zs_aload_n (i := 0) C dX4_needs_46 rfl h47
    have h43 := zs_gR C dX4_needs_43 zf_4_6 zw_151 h46
    have h42 := zs_aload_n (i := 0) C dX4_needs_42 rfl h43
    have h39 := zs_icmp_gt (tgt := 89) C dX4_needs_39 (by decide) h89 h42
    have h37 := zs_bipush (v := 19) C dX4_needs_37 (by decide) h39
    have h36 := zs_iload_n (i := 3) C dX4_needs_36 rfl h37
    intro H locs ls L st μ r h hL hst hW hS
    obtain ⟨x0, x1, x2, x3, rfl, rfl, h⟩ := k_X4_needs_L36_i h
    exact h36 H locs ls [some (.inr (.inr (4, x0))), some (.inl x1), some (.inl x2), some (.inl x3)] [] μ r h (hL.less ⟨rfl, rfl, rfl, rfl, trivial⟩) hst hW hS
def f_X4_needs (N : Nat) (x0 : Nat) (x1 : Int32) (x2 : Int32) (μ : ZM) : Option (Int32 × ZM) :=
  (f_X4_isCouple N x0 x1 μ).bind fun r1 =>
  if r1.1 = 0 then
    some ((-1), r1.2)
  else
    (f_X4_within N x2 1 40 r1.2).bind fun r2 =>
    if ¬ r2.1 = 0 then
      (f_X3_isTogether N (x0 + 1) x1 r2.2).bind fun r3 =>
      if ¬ r3.1 = 0 then
        f_X4_needs_L36 N N x0 x1 x2 0 r3.2
      else
        some ((-2), r3.2)
    else
      some ((-1), r2.2)
def g_X4_needs (N : Nat) (as : List ZV) (μ : ZM) : Option (Int32 × ZM) := match as with
  | [.inr (.inr (4, x0)), .inl x1, .inl x2] => f_X4_needs N x0 x1 x2 μ
  | _ => none
theorem g_X4_needs_i {N : Nat} {as : List ZV} {μ : ZM} {r : Int32 × ZM} (h : g_X4_needs N as μ = some r) : ∃ (x0 : Nat) (x1 : Int32) (x2 : Int32), as = [.inr (.inr (4, x0)), .inl x1, .inl x2] ∧ f_X4_needs N x0 x1 x2 μ = some r := by
  unfold g_X4_needs at h
  split at h
  · exact ⟨_, _, _, rfl, h⟩
  · cases h
set_option maxRecDepth 100000 in
theorem c_X4_needs (N : Nat) : zk_C yX4_needs cX4_needs 4 (some .int) ({ frames := 4, cells := 0, slots := 0, locals := 90 } : Room) zq_I (g_X4_needs N) := by
  refine zk_met ?κ (by decide +kernel) ?hG ?body
  case body =>
    intro X E C
    have C : zk_X X E RX4 cX4_needs 4 (some .int) ({ frames := 4, cells := 0, slots := 0, locals := 90 } : Room) := C
    have e36 := s_X4_needs_L36 N C N
    have h35 := zs_istore_n (i := 3) C dX4_needs_35 rfl e36
    have h34 := zs_iconst (v := 0) C dX4_needs_34 (by decide) h35
    have h33 := zs_iret C dX4_needs_33
    have h31 := zs_bipush (v := (-2)) C dX4_needs_31 (by decide) h33
    have h28 := zs_if_ne (tgt := 34) C dX4_needs_28 (by decide) h34 h31
    have h25 := zs_vI C dX4_needs_25 (m_X3_isTogether N) zw_193 ⟨Nat.le_of_ble_eq_true rfl, Nat.le_of_ble_eq_true rfl⟩ h28
    have h24 := zs_iload_n (i := 1) C dX4_needs_24 rfl h25
    have h21 := zs_gR C dX4_needs_21 zf_4_0 zw_145 h24
    have h20 := zs_aload_n (i := 0) C dX4_needs_20 rfl h21
    have h19 := zs_iret C dX4_needs_19
    have h18 := zs_iconst (v := (-1)) C dX4_needs_18 (by decide) h19
    have h15 := zs_if_ne (tgt := 20) C dX4_needs_15 (by decide) h20 h18
    have h12 := zs_sI C dX4_needs_12 (m_X4_within N) zw_174 ⟨Nat.le_of_ble_eq_true rfl, Nat.le_of_ble_eq_true rfl⟩ h15
    have h10 := zs_bipush (v := 40) C dX4_needs_10 (by decide) h12
    have h9 := zs_iconst (v := 1) C dX4_needs_9 (by decide) h10
    have h8 := zs_iload_n (i := 2) C dX4_needs_8 rfl h9
    have h5 := zs_if_eq (tgt := 18) C dX4_needs_5 (by decide) h18 h8
    have h2 := zs_vI C dX4_needs_2 (m_X4_isCouple N) zw_189 ⟨Nat.le_of_ble_eq_true rfl, Nat.le_of_ble_eq_true rfl⟩ h5
    have h1 := zs_iload_n (i := 1) C dX4_needs_1 rfl h2
    have h0 := zs_aload_n (i := 0) C dX4_needs_0 rfl h1
    exact h0
  case hG =>
    intro as μ r h
    obtain ⟨x0, x1, x2, rfl, h⟩ := g_X4_needs_i h
    exact ⟨Nat.le_of_ble_eq_true rfl, h⟩
theorem m_X4_needs (N : Nat) : zk_MV yX4_needs cX4_needs 4 (some .int) ({ frames := 4, cells := 0, slots := 0, locals := 90 } : Room) zq_I (g_X4_needs N) 2 4 := ⟨c_X4_needs N, zw_413, zw_411, zw_412, zw_26, rfl, rfl, by decide +kernel, by decide, ⟨TX4, 8, rfl⟩, fun as μ r h => by obtain ⟨x0, x1, x2, rfl, -⟩ := g_X4_needs_i h; exact ⟨_, _, rfl⟩⟩
-- LongestWed.togetherIfNursed(II)I
def f_X4_togetherIfNursed (N : Nat) (x0 : Nat) (x1 : Int32) (x2 : Int32) (μ : ZM) : Option (Int32 × ZM) :=
  (f_X3_become N (x0 + 98) (x0 + 1) μ).bind fun r1 =>
  (f_X3_better N (x0 + 98) x1 5 r1).bind fun r2 =>
  (f_X3_passYears N (x0 + 98) x2 r2).bind fun r3 =>
  (f_J6_bitCount_0f7a4 N (r3.1 (x0 + 98) 5) r3).bind fun r4 =>
  some (r4.1, r4.2)
def g_X4_togetherIfNursed (N : Nat) (as : List ZV) (μ : ZM) : Option (Int32 × ZM) := match as with
  | [.inr (.inr (4, x0)), .inl x1, .inl x2] => f_X4_togetherIfNursed N x0 x1 x2 μ
  | _ => none
theorem g_X4_togetherIfNursed_i {N : Nat} {as : List ZV} {μ : ZM} {r : Int32 × ZM} (h : g_X4_togetherIfNursed N as μ = some r) : ∃ (x0 : Nat) (x1 : Int32) (x2 : Int32), as = [.inr (.inr (4, x0)), .inl x1, .inl x2] ∧ f_X4_togetherIfNursed N x0 x1 x2 μ = some r := by
  unfold g_X4_togetherIfNursed at h
  split at h
  · exact ⟨_, _, _, rfl, h⟩
  · cases h
set_option maxRecDepth 100000 in
theorem c_X4_togetherIfNursed (N : Nat) : zk_C yX4_togetherIfNursed cX4_togetherIfNursed 3 (some .int) ({ frames := 4, cells := 0, slots := 0, locals := 90 } : Room) zq_I (g_X4_togetherIfNursed N) := by
  refine zk_met ?κ (by decide +kernel) ?hG ?body
  case body =>
    intro X E C
    have C : zk_X X E RX4 cX4_togetherIfNursed 3 (some .int) ({ frames := 4, cells := 0, slots := 0, locals := 90 } : Room) := C
    have h38 := zs_iret C dX4_togetherIfNursed_38
    have h35 := zs_sI C dX4_togetherIfNursed_35 (m_J6_bitCount_0f7a4 N) zw_400 ⟨Nat.le_of_ble_eq_true rfl, Nat.le_of_ble_eq_true rfl⟩ h38
    have h32 := zs_gI C dX4_togetherIfNursed_32 zf_3_5 zw_60 h35
    have h29 := zs_gR C dX4_togetherIfNursed_29 zf_4_6 zw_151 h32
    have h28 := zs_aload_n (i := 0) C dX4_togetherIfNursed_28 rfl h29
    have h25 := zs_vV C dX4_togetherIfNursed_25 (m_X3_passYears N) zw_359 ⟨Nat.le_of_ble_eq_true rfl, Nat.le_of_ble_eq_true rfl⟩ h28
    have h24 := zs_iload_n (i := 2) C dX4_togetherIfNursed_24 rfl h25
    have h21 := zs_gR C dX4_togetherIfNursed_21 zf_4_6 zw_151 h24
    have h20 := zs_aload_n (i := 0) C dX4_togetherIfNursed_20 rfl h21
    have h17 := zs_vV C dX4_togetherIfNursed_17 (m_X3_better N) zw_314 ⟨Nat.le_of_ble_eq_true rfl, Nat.le_of_ble_eq_true rfl⟩ h20
    have h16 := zs_iconst (v := 5) C dX4_togetherIfNursed_16 (by decide) h17
    have h15 := zs_iload_n (i := 1) C dX4_togetherIfNursed_15 rfl h16
    have h12 := zs_gR C dX4_togetherIfNursed_12 zf_4_6 zw_151 h15
    have h11 := zs_aload_n (i := 0) C dX4_togetherIfNursed_11 rfl h12
    have h8 := zs_vV C dX4_togetherIfNursed_8 (m_X3_become N) zw_269 ⟨Nat.le_of_ble_eq_true rfl, Nat.le_of_ble_eq_true rfl⟩ h11
    have h5 := zs_gR C dX4_togetherIfNursed_5 zf_4_0 zw_145 h8
    have h4 := zs_aload_n (i := 0) C dX4_togetherIfNursed_4 rfl h5
    have h1 := zs_gR C dX4_togetherIfNursed_1 zf_4_6 zw_151 h4
    have h0 := zs_aload_n (i := 0) C dX4_togetherIfNursed_0 rfl h1
    exact h0
  case hG =>
    intro as μ r h
    obtain ⟨x0, x1, x2, rfl, h⟩ := g_X4_togetherIfNursed_i h
    exact ⟨Nat.le_of_ble_eq_true rfl, h⟩
theorem m_X4_togetherIfNursed (N : Nat) : zk_MV yX4_togetherIfNursed cX4_togetherIfNursed 3 (some .int) ({ frames := 4, cells := 0, slots := 0, locals := 90 } : Room) zq_I (g_X4_togetherIfNursed N) 2 4 := ⟨c_X4_togetherIfNursed N, zw_421, zw_420, zw_5, zw_26, rfl, rfl, by decide +kernel, by decide, ⟨TX4, 8, rfl⟩, fun as μ r h => by obtain ⟨x0, x1, x2, rfl, -⟩ := g_X4_togetherIfNursed_i h; exact ⟨_, _, rfl⟩⟩
-- LongestWed.soothe(II)I
def f_X4_soothe_L31 (N : Nat) : Nat → Nat → Int32 → Int32 → Int32 → Int32 → Int32 → ZM → Option (Int32 × ZM)
  | 0, _, _, _, _, _, _, _ => none
  | n + 1, x0, x1, x2, x3, x4, x5, μ =>
    if (μ.1 (x0 + 1) 4) ≤ x5 then
      if ¬ x2 = 0 then
        some (x4, μ)
      else
        some (x3, μ)
    else
      (f_X3_isTogether N (x0 + 1) x5 μ).bind fun r1 =>
      let j67 : Int32 → ZM → Option (Int32 × ZM) := fun b2 μ3 =>
        if b2 ≤ x4 then
          f_X4_soothe_L31 N n x0 x1 x2 x3 x4 (x5 + 1) μ3
        else
          f_X4_soothe_L31 N n x0 x1 x2 x5 b2 (x5 + 1) μ3
      if r1.1 = 0 then
        j67 (-4) r1.2
      else
        (f_X4_togetherIfNursed N x0 x5 x1 r1.2).bind fun r4 =>
        j67 r4.1 r4.2
def k_X4_soothe_L31 (N n : Nat) : ZK (Int32 × ZM) := fun L st μ => match L, st with
  | [some (.inr (.inr (4, x0))), some (.inl x1), some (.inl x2), some (.inl x3), some (.inl x4), some (.inl x5), _], [] => f_X4_soothe_L31 N n x0 x1 x2 x3 x4 x5 μ
  | _, _ => none
theorem k_X4_soothe_L31_i {N : Nat} {n : Nat} {L : ZL} {st : List ZV} {μ : ZM} {r : Int32 × ZM} (h : k_X4_soothe_L31 N n L st μ = some r) : ∃ (x0 : Nat) (x1 : Int32) (x2 : Int32) (x3 : Int32) (x4 : Int32) (x5 : Int32) (u6 : Option ZV), L = [some (.inr (.inr (4, x0))), some (.inl x1), some (.inl x2), some (.inl x3), some (.inl x4), some (.inl x5), u6] ∧ st = [] ∧ f_X4_soothe_L31 N n x0 x1 x2 x3 x4 x5 μ = some r := by
  unfold k_X4_soothe_L31 at h
  split at h
  · exact ⟨_, _, _, _, _, _, _, rfl, rfl, h⟩
  · cases h
set_option maxRecDepth 100000 in
theorem s_X4_soothe_L31 (N : Nat) {X : ZX} {E : ZE} (C : zk_X X E RX4 cX4_soothe 7 (some .int) ({ frames := 5, cells := 0, slots := 0, locals := 112 } : Room)) : ∀ n, zk_S X E 7 zq_I 31 (k_X4_soothe_L31 N n) := by
  intro n
  induction n with
  | zero =>
    intro H locs ls L st μ r h hL hst hW hS
    obtain ⟨x0, x1, x2, x3, x4, x5, u6, rfl, rfl, h⟩ := k_X4_soothe_L31_i h
    exact nomatch (show none = some r from h)
  | succ n ih =>
    have h99 := zs_iret C dX4_soothe_99
    have h97 := zs_iload (i := 4) C dX4_soothe_97 h99
    have h94 := zs_goto (tgt := 99) C dX4_soothe_94 (by decide) h99
    have h93 := zs_iload_n (i := 3) C dX4_soothe_93 rfl h94
    have h90 := zs_if_ne (tgt := 97) C dX4_soothe_90 (by decide) h97 h93
    have h89 := zs_iload_n (i := 2) C dX4_soothe_89 rfl h90
    have h86 := zs_goto (tgt := 31) C dX4_soothe_86 (by decide) ih
    have h83 := zs_iinc (n := 1) C dX4_soothe_83 (by decide) h86
    have h81 := zs_istore (i := 4) C dX4_soothe_81 h83
    have h79 := zs_iload (i := 6) C dX4_soothe_79 h81
    have h78 := zs_istore_n (i := 3) C dX4_soothe_78 rfl h79
    have h76 := zs_iload (i := 5) C dX4_soothe_76 h78
    have h73 := zs_icmp_le (tgt := 83) C dX4_soothe_73 (by decide) h83 h76
    have h71 := zs_iload (i := 4) C dX4_soothe_71 h73
    have h69 := zs_iload (i := 6) C dX4_soothe_69 h71
    have h67 := zs_istore (i := 6) C dX4_soothe_67 h69
    have h65 := zs_bipush (v := (-4)) C dX4_soothe_65 (by decide) h67
    have h62 := zs_goto (tgt := 67) C dX4_soothe_62 (by decide) h67
    have h59 := zs_vI C dX4_soothe_59 (m_X4_togetherIfNursed N) zw_418 ⟨Nat.le_of_ble_eq_true rfl, Nat.le_of_ble_eq_true rfl⟩ h62
    have h58 := zs_iload_n (i := 1) C dX4_soothe_58 rfl h59
    have h56 := zs_iload (i := 5) C dX4_soothe_56 h58
    have h55 := zs_aload_n (i := 0) C dX4_soothe_55 rfl h56
    have h52 := zs_if_eq (tgt := 65) C dX4_soothe_52 (by decide) h65 h55
    have h49 := zs_vI C dX4_soothe_49 (m_X3_isTogether N) zw_193 ⟨Nat.le_of_ble_eq_true rfl, Nat.le_of_ble_eq_true rfl⟩ h52
    have h47 := zs_iload (i := 5) C dX4_soothe_47 h49
    have h44 := zs_gR C dX4_soothe_44 zf_4_0 zw_145 h47
    have h43 := zs_aload_n (i := 0) C dX4_soothe_43 rfl h44
    have h40 := zs_icmp_ge (tgt := 89) C dX4_soothe_40 (by decide) h89 h43
    have h37 := zs_gI C dX4_soothe_37 zf_3_4 zw_58 h40
    have h34 := zs_gR C dX4_soothe_34 zf_4_0 zw_145 h37
    have h33 := zs_aload_n (i := 0) C dX4_soothe_33 rfl h34
    have h31 := zs_iload (i := 5) C dX4_soothe_31 h33
    intro H locs ls L st μ r h hL hst hW hS
    obtain ⟨x0, x1, x2, x3, x4, x5, u6, rfl, rfl, h⟩ := k_X4_soothe_L31_i h
    exact h31 H locs ls [some (.inr (.inr (4, x0))), some (.inl x1), some (.inl x2), some (.inl x3), some (.inl x4), some (.inl x5), none] [] μ r h (hL.less ⟨rfl, rfl, rfl, rfl, rfl, rfl, trivial⟩) hst hW hS
def f_X4_soothe (N : Nat) (x0 : Nat) (x1 : Int32) (x2 : Int32) (μ : ZM) : Option (Int32 × ZM) :=
  (f_X4_within N x1 1 40 μ).bind fun r1 =>
  if r1.1 = 0 then
    some ((-1), r1.2)
  else
    (f_X4_within N x2 0 1 r1.2).bind fun r2 =>
    if ¬ r2.1 = 0 then
      f_X4_soothe_L31 N N x0 x1 x2 (-4) (-4) 0 r2.2
    else
      some ((-1), r2.2)
def g_X4_soothe (N : Nat) (as : List ZV) (μ : ZM) : Option (Int32 × ZM) := match as with
  | [.inr (.inr (4, x0)), .inl x1, .inl x2] => f_X4_soothe N x0 x1 x2 μ
  | _ => none
theorem g_X4_soothe_i {N : Nat} {as : List ZV} {μ : ZM} {r : Int32 × ZM} (h : g_X4_soothe N as μ = some r) : ∃ (x0 : Nat) (x1 : Int32) (x2 : Int32), as = [.inr (.inr (4, x0)), .inl x1, .inl x2] ∧ f_X4_soothe N x0 x1 x2 μ = some r := by
  unfold g_X4_soothe at h
  split at h
  · exact ⟨_, _, _, rfl, h⟩
  · cases h
set_option maxRecDepth 100000 in
theorem c_X4_soothe (N : Nat) : zk_C yX4_soothe cX4_soothe 7 (some .int) ({ frames := 5, cells := 0, slots := 0, locals := 112 } : Room) zq_I (g_X4_soothe N) := by
  refine zk_met ?κ (by decide +kernel) ?hG ?body
  case body =>
    intro X E C
    have C : zk_X X E RX4 cX4_soothe 7 (some .int) ({ frames := 5, cells := 0, slots := 0, locals := 112 } : Room) := C
    have e31 := s_X4_soothe_L31 N C N
    have h29 := zs_istore (i := 5) C dX4_soothe_29 e31
    have h28 := zs_iconst (v := 0) C dX4_soothe_28 (by decide) h29
    have h26 := zs_istore (i := 4) C dX4_soothe_26 h28
    have h24 := zs_bipush (v := (-4)) C dX4_soothe_24 (by decide) h26
    have h23 := zs_istore_n (i := 3) C dX4_soothe_23 rfl h24
    have h21 := zs_bipush (v := (-4)) C dX4_soothe_21 (by decide) h23
    have h20 := zs_iret C dX4_soothe_20
    have h19 := zs_iconst (v := (-1)) C dX4_soothe_19 (by decide) h20
    have h16 := zs_if_ne (tgt := 21) C dX4_soothe_16 (by decide) h21 h19
    have h13 := zs_sI C dX4_soothe_13 (m_X4_within N) zw_174 ⟨Nat.le_of_ble_eq_true rfl, Nat.le_of_ble_eq_true rfl⟩ h16
    have h12 := zs_iconst (v := 1) C dX4_soothe_12 (by decide) h13
    have h11 := zs_iconst (v := 0) C dX4_soothe_11 (by decide) h12
    have h10 := zs_iload_n (i := 2) C dX4_soothe_10 rfl h11
    have h7 := zs_if_eq (tgt := 19) C dX4_soothe_7 (by decide) h19 h10
    have h4 := zs_sI C dX4_soothe_4 (m_X4_within N) zw_174 ⟨Nat.le_of_ble_eq_true rfl, Nat.le_of_ble_eq_true rfl⟩ h7
    have h2 := zs_bipush (v := 40) C dX4_soothe_2 (by decide) h4
    have h1 := zs_iconst (v := 1) C dX4_soothe_1 (by decide) h2
    have h0 := zs_iload_n (i := 1) C dX4_soothe_0 rfl h1
    exact h0
  case hG =>
    intro as μ r h
    obtain ⟨x0, x1, x2, rfl, h⟩ := g_X4_soothe_i h
    exact ⟨Nat.le_of_ble_eq_true rfl, h⟩
theorem m_X4_soothe (N : Nat) : zk_MV yX4_soothe cX4_soothe 7 (some .int) ({ frames := 5, cells := 0, slots := 0, locals := 112 } : Room) zq_I (g_X4_soothe N) 2 4 := ⟨c_X4_soothe N, zw_417, zw_415, zw_416, zw_26, rfl, rfl, by decide +kernel, by decide, ⟨TX4, 8, rfl⟩, fun as μ r h => by obtain ⟨x0, x1, x2, rfl, -⟩ := g_X4_soothe_i h; exact ⟨_, _, rfl⟩⟩
-- LongestWed.keepsIfWedAnew(II)Z
def f_X4_keepsIfWedAnew (N : Nat) (x0 : Nat) (x1 : Int32) (x2 : Int32) (μ : ZM) : Option (Int32 × ZM) :=
  (f_X3_become N (x0 + 98) (x0 + 1) μ).bind fun r1 =>
  (f_X3_wedAnew N (x0 + 98) x1 r1).bind fun r2 =>
  (f_X3_passYears N (x0 + 98) x2 r2).bind fun r3 =>
  (f_X3_keeper N (x0 + 98) r3).bind fun r4 =>
  if ¬ r4.1 = x1 then
    zk_zr 0 r4.2
  else
    zk_zr 1 r4.2
def g_X4_keepsIfWedAnew (N : Nat) (as : List ZV) (μ : ZM) : Option (Int32 × ZM) := match as with
  | [.inr (.inr (4, x0)), .inl x1, .inl x2] => f_X4_keepsIfWedAnew N x0 x1 x2 μ
  | _ => none
theorem g_X4_keepsIfWedAnew_i {N : Nat} {as : List ZV} {μ : ZM} {r : Int32 × ZM} (h : g_X4_keepsIfWedAnew N as μ = some r) : ∃ (x0 : Nat) (x1 : Int32) (x2 : Int32), as = [.inr (.inr (4, x0)), .inl x1, .inl x2] ∧ f_X4_keepsIfWedAnew N x0 x1 x2 μ = some r := by
  unfold g_X4_keepsIfWedAnew at h
  split at h
  · exact ⟨_, _, _, rfl, h⟩
  · cases h
set_option maxRecDepth 100000 in
theorem c_X4_keepsIfWedAnew (N : Nat) : zk_C yX4_keepsIfWedAnew cX4_keepsIfWedAnew 3 (some .boolean) ({ frames := 4, cells := 0, slots := 0, locals := 90 } : Room) zq_I (g_X4_keepsIfWedAnew N) := by
  refine zk_met ?κ (by decide +kernel) ?hG ?body
  case body =>
    intro X E C
    have C : zk_X X E RX4 cX4_keepsIfWedAnew 3 (some .boolean) ({ frames := 4, cells := 0, slots := 0, locals := 90 } : Room) := C
    have h43 := zs_zret C dX4_keepsIfWedAnew_43
    have h42 := zs_iconst (v := 0) C dX4_keepsIfWedAnew_42 (by decide) h43
    have h39 := zs_goto (tgt := 43) C dX4_keepsIfWedAnew_39 (by decide) h43
    have h38 := zs_iconst (v := 1) C dX4_keepsIfWedAnew_38 (by decide) h39
    have h35 := zs_icmp_ne (tgt := 42) C dX4_keepsIfWedAnew_35 (by decide) h42 h38
    have h34 := zs_iload_n (i := 1) C dX4_keepsIfWedAnew_34 rfl h35
    have h31 := zs_vI C dX4_keepsIfWedAnew_31 (m_X3_keeper N) zw_280 ⟨Nat.le_of_ble_eq_true rfl, Nat.le_of_ble_eq_true rfl⟩ h34
    have h28 := zs_gR C dX4_keepsIfWedAnew_28 zf_4_6 zw_151 h31
    have h27 := zs_aload_n (i := 0) C dX4_keepsIfWedAnew_27 rfl h28
    have h24 := zs_vV C dX4_keepsIfWedAnew_24 (m_X3_passYears N) zw_359 ⟨Nat.le_of_ble_eq_true rfl, Nat.le_of_ble_eq_true rfl⟩ h27
    have h23 := zs_iload_n (i := 2) C dX4_keepsIfWedAnew_23 rfl h24
    have h20 := zs_gR C dX4_keepsIfWedAnew_20 zf_4_6 zw_151 h23
    have h19 := zs_aload_n (i := 0) C dX4_keepsIfWedAnew_19 rfl h20
    have h16 := zs_vV C dX4_keepsIfWedAnew_16 (m_X3_wedAnew N) zw_327 ⟨Nat.le_of_ble_eq_true rfl, Nat.le_of_ble_eq_true rfl⟩ h19
    have h15 := zs_iload_n (i := 1) C dX4_keepsIfWedAnew_15 rfl h16
    have h12 := zs_gR C dX4_keepsIfWedAnew_12 zf_4_6 zw_151 h15
    have h11 := zs_aload_n (i := 0) C dX4_keepsIfWedAnew_11 rfl h12
    have h8 := zs_vV C dX4_keepsIfWedAnew_8 (m_X3_become N) zw_269 ⟨Nat.le_of_ble_eq_true rfl, Nat.le_of_ble_eq_true rfl⟩ h11
    have h5 := zs_gR C dX4_keepsIfWedAnew_5 zf_4_0 zw_145 h8
    have h4 := zs_aload_n (i := 0) C dX4_keepsIfWedAnew_4 rfl h5
    have h1 := zs_gR C dX4_keepsIfWedAnew_1 zf_4_6 zw_151 h4
    have h0 := zs_aload_n (i := 0) C dX4_keepsIfWedAnew_0 rfl h1
    exact h0
  case hG =>
    intro as μ r h
    obtain ⟨x0, x1, x2, rfl, h⟩ := g_X4_keepsIfWedAnew_i h
    exact ⟨Nat.le_of_ble_eq_true rfl, h⟩
theorem m_X4_keepsIfWedAnew (N : Nat) : zk_MV yX4_keepsIfWedAnew cX4_keepsIfWedAnew 3 (some .boolean) ({ frames := 4, cells := 0, slots := 0, locals := 90 } : Room) zq_I (g_X4_keepsIfWedAnew N) 2 4 := ⟨c_X4_keepsIfWedAnew N, zw_429, zw_428, zw_6, zw_26, rfl, rfl, by decide +kernel, by decide, ⟨TX4, 8, rfl⟩, fun as μ r h => by obtain ⟨x0, x1, x2, rfl, -⟩ := g_X4_keepsIfWedAnew_i h; exact ⟨_, _, rfl⟩⟩
-- LongestWed.start(I)I
def f_X4_start_L14 (N : Nat) : Nat → Nat → Int32 → Int32 → ZM → Option (Int32 × ZM)
  | 0, _, _, _, _ => none
  | n + 1, x0, x1, x2, μ =>
    if (μ.1 (x0 + 1) 4) ≤ x2 then
      some ((-4), μ)
    else
      (f_X3_isTogether N (x0 + 1) x2 μ).bind fun r1 =>
      if ¬ r1.1 = 0 then
        f_X4_start_L14 N n x0 x1 (x2 + 1) r1.2
      else
        (f_X4_keepsIfWedAnew N x0 x2 x1 r1.2).bind fun r2 =>
        if r2.1 = 0 then
          f_X4_start_L14 N n x0 x1 (x2 + 1) r2.2
        else
          some (x2, r2.2)
def k_X4_start_L14 (N n : Nat) : ZK (Int32 × ZM) := fun L st μ => match L, st with
  | [some (.inr (.inr (4, x0))), some (.inl x1), some (.inl x2)], [] => f_X4_start_L14 N n x0 x1 x2 μ
  | _, _ => none
theorem k_X4_start_L14_i {N : Nat} {n : Nat} {L : ZL} {st : List ZV} {μ : ZM} {r : Int32 × ZM} (h : k_X4_start_L14 N n L st μ = some r) : ∃ (x0 : Nat) (x1 : Int32) (x2 : Int32), L = [some (.inr (.inr (4, x0))), some (.inl x1), some (.inl x2)] ∧ st = [] ∧ f_X4_start_L14 N n x0 x1 x2 μ = some r := by
  unfold k_X4_start_L14 at h
  split at h
  · exact ⟨_, _, _, rfl, rfl, h⟩
  · cases h
set_option maxRecDepth 100000 in
theorem s_X4_start_L14 (N : Nat) {X : ZX} {E : ZE} (C : zk_X X E RX4 cX4_start 3 (some .int) ({ frames := 5, cells := 0, slots := 0, locals := 112 } : Room)) : ∀ n, zk_S X E 3 zq_I 14 (k_X4_start_L14 N n) := by
  intro n
  induction n with
  | zero =>
    intro H locs ls L st μ r h hL hst hW hS
    obtain ⟨x0, x1, x2, rfl, rfl, h⟩ := k_X4_start_L14_i h
    exact nomatch (show none = some r from h)
  | succ n ih =>
    have h55 := zs_iret C dX4_start_55
    have h53 := zs_bipush (v := (-4)) C dX4_start_53 (by decide) h55
    have h50 := zs_goto (tgt := 14) C dX4_start_50 (by decide) ih
    have h47 := zs_iinc (n := 1) C dX4_start_47 (by decide) h50
    have h46 := zs_iret C dX4_start_46
    have h45 := zs_iload_n (i := 2) C dX4_start_45 rfl h46
    have h42 := zs_if_eq (tgt := 47) C dX4_start_42 (by decide) h47 h45
    have h39 := zs_vI C dX4_start_39 (m_X4_keepsIfWedAnew N) zw_426 ⟨Nat.le_of_ble_eq_true rfl, Nat.le_of_ble_eq_true rfl⟩ h42
    have h38 := zs_iload_n (i := 1) C dX4_start_38 rfl h39
    have h37 := zs_iload_n (i := 2) C dX4_start_37 rfl h38
    have h36 := zs_aload_n (i := 0) C dX4_start_36 rfl h37
    have h33 := zs_if_ne (tgt := 47) C dX4_start_33 (by decide) h47 h36
    have h30 := zs_vI C dX4_start_30 (m_X3_isTogether N) zw_193 ⟨Nat.le_of_ble_eq_true rfl, Nat.le_of_ble_eq_true rfl⟩ h33
    have h29 := zs_iload_n (i := 2) C dX4_start_29 rfl h30
    have h26 := zs_gR C dX4_start_26 zf_4_0 zw_145 h29
    have h25 := zs_aload_n (i := 0) C dX4_start_25 rfl h26
    have h22 := zs_icmp_ge (tgt := 53) C dX4_start_22 (by decide) h53 h25
    have h19 := zs_gI C dX4_start_19 zf_3_4 zw_58 h22
    have h16 := zs_gR C dX4_start_16 zf_4_0 zw_145 h19
    have h15 := zs_aload_n (i := 0) C dX4_start_15 rfl h16
    have h14 := zs_iload_n (i := 2) C dX4_start_14 rfl h15
    intro H locs ls L st μ r h hL hst hW hS
    obtain ⟨x0, x1, x2, rfl, rfl, h⟩ := k_X4_start_L14_i h
    exact h14 H locs ls [some (.inr (.inr (4, x0))), some (.inl x1), some (.inl x2)] [] μ r h (hL.less ⟨rfl, rfl, rfl, trivial⟩) hst hW hS
def f_X4_start (N : Nat) (x0 : Nat) (x1 : Int32) (μ : ZM) : Option (Int32 × ZM) :=
  (f_X4_within N x1 0 60 μ).bind fun r1 =>
  if ¬ r1.1 = 0 then
    f_X4_start_L14 N N x0 x1 0 r1.2
  else
    some ((-1), r1.2)
def g_X4_start (N : Nat) (as : List ZV) (μ : ZM) : Option (Int32 × ZM) := match as with
  | [.inr (.inr (4, x0)), .inl x1] => f_X4_start N x0 x1 μ
  | _ => none
theorem g_X4_start_i {N : Nat} {as : List ZV} {μ : ZM} {r : Int32 × ZM} (h : g_X4_start N as μ = some r) : ∃ (x0 : Nat) (x1 : Int32), as = [.inr (.inr (4, x0)), .inl x1] ∧ f_X4_start N x0 x1 μ = some r := by
  unfold g_X4_start at h
  split at h
  · exact ⟨_, _, rfl, h⟩
  · cases h
set_option maxRecDepth 100000 in
theorem c_X4_start (N : Nat) : zk_C yX4_start cX4_start 3 (some .int) ({ frames := 5, cells := 0, slots := 0, locals := 112 } : Room) zq_I (g_X4_start N) := by
  refine zk_met ?κ (by decide +kernel) ?hG ?body
  case body =>
    intro X E C
    have C : zk_X X E RX4 cX4_start 3 (some .int) ({ frames := 5, cells := 0, slots := 0, locals := 112 } : Room) := C
    have e14 := s_X4_start_L14 N C N
    have h13 := zs_istore_n (i := 2) C dX4_start_13 rfl e14
    have h12 := zs_iconst (v := 0) C dX4_start_12 (by decide) h13
    have h11 := zs_iret C dX4_start_11
    have h10 := zs_iconst (v := (-1)) C dX4_start_10 (by decide) h11
    have h7 := zs_if_ne (tgt := 12) C dX4_start_7 (by decide) h12 h10
    have h4 := zs_sI C dX4_start_4 (m_X4_within N) zw_174 ⟨Nat.le_of_ble_eq_true rfl, Nat.le_of_ble_eq_true rfl⟩ h7
    have h2 := zs_bipush (v := 60) C dX4_start_2 (by decide) h4
    have h1 := zs_iconst (v := 0) C dX4_start_1 (by decide) h2
    have h0 := zs_iload_n (i := 1) C dX4_start_0 rfl h1
    exact h0
  case hG =>
    intro as μ r h
    obtain ⟨x0, x1, rfl, h⟩ := g_X4_start_i h
    exact ⟨Nat.le_of_ble_eq_true rfl, h⟩
theorem m_X4_start (N : Nat) : zk_MV yX4_start cX4_start 3 (some .int) ({ frames := 5, cells := 0, slots := 0, locals := 112 } : Room) zq_I (g_X4_start N) 1 4 := ⟨c_X4_start N, zw_425, zw_423, zw_424, zw_26, rfl, rfl, by decide +kernel, by decide, ⟨TX4, 8, rfl⟩, fun as μ r h => by obtain ⟨x0, x1, rfl, -⟩ := g_X4_start_i h; exact ⟨_, _, rfl⟩⟩
-- LongestWed.sum(I)I
def f_X4_sum_L27 (N : Nat) : Nat → Nat → Int32 → Int32 → Int32 → ZM → Option (Int32 × ZM)
  | 0, _, _, _, _, _ => none
  | n + 1, x0, x1, x2, x3, μ =>
    if x1 ≤ x3 then
      some (x2, μ)
    else
      (f_X3_keeper N (x0 + 98) μ).bind fun r1 =>
      let j59 : Int32 → Option (Int32 × ZM) := fun a2 =>
        (f_X3_passYear N (x0 + 98) r1.2).bind fun r3 =>
        f_X4_sum_L27 N n x0 x1 a2 (x3 + 1) r3
      if r1.1 < 0 then
        j59 x2
      else
        if zk_o r1.1 7 = true then none else
        j59 (x2 + (r1.2.1 ((x0 + 98) + 4) (Int32.toNatClampNeg r1.1)))
def k_X4_sum_L27 (N n : Nat) : ZK (Int32 × ZM) := fun L st μ => match L, st with
  | [some (.inr (.inr (4, x0))), some (.inl x1), some (.inl x2), some (.inl x3), _], [] => f_X4_sum_L27 N n x0 x1 x2 x3 μ
  | _, _ => none
theorem k_X4_sum_L27_i {N : Nat} {n : Nat} {L : ZL} {st : List ZV} {μ : ZM} {r : Int32 × ZM} (h : k_X4_sum_L27 N n L st μ = some r) : ∃ (x0 : Nat) (x1 : Int32) (x2 : Int32) (x3 : Int32) (u4 : Option ZV), L = [some (.inr (.inr (4, x0))), some (.inl x1), some (.inl x2), some (.inl x3), u4] ∧ st = [] ∧ f_X4_sum_L27 N n x0 x1 x2 x3 μ = some r := by
  unfold k_X4_sum_L27 at h
  split at h
  · exact ⟨_, _, _, _, _, rfl, rfl, h⟩
  · cases h
set_option maxRecDepth 100000 in
theorem s_X4_sum_L27 (N : Nat) {X : ZX} {E : ZE} (C : zk_X X E RX4 cX4_sum 5 (some .int) ({ frames := 3, cells := 0, slots := 0, locals := 68 } : Room)) : ∀ n, zk_S X E 5 zq_I 27 (k_X4_sum_L27 N n) := by
  intro n
  induction n with
  | zero =>
    intro H locs ls L st μ r h hL hst hW hS
    obtain ⟨x0, x1, x2, x3, u4, rfl, rfl, h⟩ := k_X4_sum_L27_i h
    exact nomatch (show none = some r from h)
  | succ n ih =>
    have h73 := zs_iret C dX4_sum_73
    have h72 := zs_iload_n (i := 2) C dX4_sum_72 rfl h73
    have h69 := zs_goto (tgt := 27) C dX4_sum_69 (by decide) ih
    have h66 := zs_iinc (n := 1) C dX4_sum_66 (by decide) h69
    have h63 := zs_vV C dX4_sum_63 (m_X3_passYear N) zw_298 ⟨Nat.le_of_ble_eq_true rfl, Nat.le_of_ble_eq_true rfl⟩ h66
    have h60 := zs_gR C dX4_sum_60 zf_4_6 zw_151 h63
    have h59 := zs_aload_n (i := 0) C dX4_sum_59 rfl h60
    have h58 := zs_istore_n (i := 2) C dX4_sum_58 rfl h59
    have h57 := zs_iadd C dX4_sum_57 h58
    have h56 := zs_iald (n := 7) C dX4_sum_56 (by decide) h57
    have h54 := zs_iload (i := 4) C dX4_sum_54 h56
    have h51 := zs_gR C dX4_sum_51 zf_3_3 zw_56 h54
    have h48 := zs_gR C dX4_sum_48 zf_4_6 zw_151 h51
    have h47 := zs_aload_n (i := 0) C dX4_sum_47 rfl h48
    have h46 := zs_iload_n (i := 2) C dX4_sum_46 rfl h47
    have h43 := zs_if_lt (tgt := 59) C dX4_sum_43 (by decide) h59 h46
    have h41 := zs_iload (i := 4) C dX4_sum_41 h43
    have h39 := zs_istore (i := 4) C dX4_sum_39 h41
    have h36 := zs_vI C dX4_sum_36 (m_X3_keeper N) zw_280 ⟨Nat.le_of_ble_eq_true rfl, Nat.le_of_ble_eq_true rfl⟩ h39
    have h33 := zs_gR C dX4_sum_33 zf_4_6 zw_151 h36
    have h32 := zs_aload_n (i := 0) C dX4_sum_32 rfl h33
    have h29 := zs_icmp_ge (tgt := 72) C dX4_sum_29 (by decide) h72 h32
    have h28 := zs_iload_n (i := 1) C dX4_sum_28 rfl h29
    have h27 := zs_iload_n (i := 3) C dX4_sum_27 rfl h28
    intro H locs ls L st μ r h hL hst hW hS
    obtain ⟨x0, x1, x2, x3, u4, rfl, rfl, h⟩ := k_X4_sum_L27_i h
    exact h27 H locs ls [some (.inr (.inr (4, x0))), some (.inl x1), some (.inl x2), some (.inl x3), none] [] μ r h (hL.less ⟨rfl, rfl, rfl, rfl, trivial⟩) hst hW hS
def f_X4_sum (N : Nat) (x0 : Nat) (x1 : Int32) (μ : ZM) : Option (Int32 × ZM) :=
  (f_X4_within N x1 1 40 μ).bind fun r1 =>
  if ¬ r1.1 = 0 then
    (f_X3_become N (x0 + 98) (x0 + 1) r1.2).bind fun r2 =>
    f_X4_sum_L27 N N x0 x1 0 0 r2
  else
    some ((-1), r1.2)
def g_X4_sum (N : Nat) (as : List ZV) (μ : ZM) : Option (Int32 × ZM) := match as with
  | [.inr (.inr (4, x0)), .inl x1] => f_X4_sum N x0 x1 μ
  | _ => none
theorem g_X4_sum_i {N : Nat} {as : List ZV} {μ : ZM} {r : Int32 × ZM} (h : g_X4_sum N as μ = some r) : ∃ (x0 : Nat) (x1 : Int32), as = [.inr (.inr (4, x0)), .inl x1] ∧ f_X4_sum N x0 x1 μ = some r := by
  unfold g_X4_sum at h
  split at h
  · exact ⟨_, _, rfl, h⟩
  · cases h
set_option maxRecDepth 100000 in
theorem c_X4_sum (N : Nat) : zk_C yX4_sum cX4_sum 5 (some .int) ({ frames := 3, cells := 0, slots := 0, locals := 68 } : Room) zq_I (g_X4_sum N) := by
  refine zk_met ?κ (by decide +kernel) ?hG ?body
  case body =>
    intro X E C
    have C : zk_X X E RX4 cX4_sum 5 (some .int) ({ frames := 3, cells := 0, slots := 0, locals := 68 } : Room) := C
    have e27 := s_X4_sum_L27 N C N
    have h26 := zs_istore_n (i := 3) C dX4_sum_26 rfl e27
    have h25 := zs_iconst (v := 0) C dX4_sum_25 (by decide) h26
    have h22 := zs_vV C dX4_sum_22 (m_X3_become N) zw_269 ⟨Nat.le_of_ble_eq_true rfl, Nat.le_of_ble_eq_true rfl⟩ h25
    have h19 := zs_gR C dX4_sum_19 zf_4_0 zw_145 h22
    have h18 := zs_aload_n (i := 0) C dX4_sum_18 rfl h19
    have h15 := zs_gR C dX4_sum_15 zf_4_6 zw_151 h18
    have h14 := zs_aload_n (i := 0) C dX4_sum_14 rfl h15
    have h13 := zs_istore_n (i := 2) C dX4_sum_13 rfl h14
    have h12 := zs_iconst (v := 0) C dX4_sum_12 (by decide) h13
    have h11 := zs_iret C dX4_sum_11
    have h10 := zs_iconst (v := (-1)) C dX4_sum_10 (by decide) h11
    have h7 := zs_if_ne (tgt := 12) C dX4_sum_7 (by decide) h12 h10
    have h4 := zs_sI C dX4_sum_4 (m_X4_within N) zw_174 ⟨Nat.le_of_ble_eq_true rfl, Nat.le_of_ble_eq_true rfl⟩ h7
    have h2 := zs_bipush (v := 40) C dX4_sum_2 (by decide) h4
    have h1 := zs_iconst (v := 1) C dX4_sum_1 (by decide) h2
    have h0 := zs_iload_n (i := 1) C dX4_sum_0 rfl h1
    exact h0
  case hG =>
    intro as μ r h
    obtain ⟨x0, x1, rfl, h⟩ := g_X4_sum_i h
    exact ⟨Nat.le_of_ble_eq_true rfl, h⟩
theorem m_X4_sum (N : Nat) : zk_MV yX4_sum cX4_sum 5 (some .int) ({ frames := 3, cells := 0, slots := 0, locals := 68 } : Room) zq_I (g_X4_sum N) 1 4 := ⟨c_X4_sum N, zw_433, zw_431, zw_432, zw_26, rfl, rfl, by decide +kernel, by decide, ⟨TX4, 8, rfl⟩, fun as μ r h => by obtain ⟨x0, x1, rfl, -⟩ := g_X4_sum_i h; exact ⟨_, _, rfl⟩⟩
-- LongestWed.commonDivisor(II)I
def f_X4_commonDivisor_L7 (N : Nat) : Nat → Int32 → Int32 → Int32 → ZM → Option (Int32 × ZM)
  | 0, _, _, _, _ => none
  | n + 1, x2, x3, x4, μ =>
    if (64 : Int32) ≤ x4 then
      some (x2, μ)
    else
      if x3 = 0 then
        some (x2, μ)
      else
        if x3 = 0 then none else
        f_X4_commonDivisor_L7 N n x3 (x2 - x2 / x3 * x3) (x4 + 1) μ
def k_X4_commonDivisor_L7 (N n : Nat) : ZK (Int32 × ZM) := fun L st μ => match L, st with
  | [_, _, some (.inl x2), some (.inl x3), some (.inl x4), _], [] => f_X4_commonDivisor_L7 N n x2 x3 x4 μ
  | _, _ => none
theorem k_X4_commonDivisor_L7_i {N : Nat} {n : Nat} {L : ZL} {st : List ZV} {μ : ZM} {r : Int32 × ZM} (h : k_X4_commonDivisor_L7 N n L st μ = some r) : ∃ (x2 : Int32) (x3 : Int32) (x4 : Int32) (u0 : Option ZV) (u1 : Option ZV) (u5 : Option ZV), L = [u0, u1, some (.inl x2), some (.inl x3), some (.inl x4), u5] ∧ st = [] ∧ f_X4_commonDivisor_L7 N n x2 x3 x4 μ = some r := by
  unfold k_X4_commonDivisor_L7 at h
  split at h
  · exact ⟨_, _, _, _, _, _, rfl, rfl, h⟩
  · cases h
set_option maxRecDepth 100000 in
theorem s_X4_commonDivisor_L7 (N : Nat) {X : ZX} {E : ZE} (C : zk_X X E RX4 cX4_commonDivisor 6 (some .int) ({ frames := 0, cells := 0, slots := 0, locals := 0 } : Room)) : ∀ n, zk_S X E 6 zq_I 7 (k_X4_commonDivisor_L7 N n) := by
  intro n
  induction n with
  | zero =>
    intro H locs ls L st μ r h hL hst hW hS
    obtain ⟨x2, x3, x4, u0, u1, u5, rfl, rfl, h⟩ := k_X4_commonDivisor_L7_i h
    exact nomatch (show none = some r from h)
  | succ n ih =>
    have h35 := zs_iret C dX4_commonDivisor_35
    have h34 := zs_iload_n (i := 2) C dX4_commonDivisor_34 rfl h35
    have h31 := zs_goto (tgt := 7) C dX4_commonDivisor_31 (by decide) ih
    have h28 := zs_iinc (n := 1) C dX4_commonDivisor_28 (by decide) h31
    have h27 := zs_istore_n (i := 3) C dX4_commonDivisor_27 rfl h28
    have h25 := zs_iload (i := 5) C dX4_commonDivisor_25 h27
    have h24 := zs_istore_n (i := 2) C dX4_commonDivisor_24 rfl h25
    have h23 := zs_iload_n (i := 3) C dX4_commonDivisor_23 rfl h24
    have h21 := zs_istore (i := 5) C dX4_commonDivisor_21 h23
    have h20 := zs_irem C dX4_commonDivisor_20 h21
    have h19 := zs_iload_n (i := 3) C dX4_commonDivisor_19 rfl h20
    have h18 := zs_iload_n (i := 2) C dX4_commonDivisor_18 rfl h19
    have h15 := zs_if_eq (tgt := 34) C dX4_commonDivisor_15 (by decide) h34 h18
    have h14 := zs_iload_n (i := 3) C dX4_commonDivisor_14 rfl h15
    have h11 := zs_icmp_ge (tgt := 34) C dX4_commonDivisor_11 (by decide) h34 h14
    have h9 := zs_bipush (v := 64) C dX4_commonDivisor_9 (by decide) h11
    have h7 := zs_iload (i := 4) C dX4_commonDivisor_7 h9
    intro H locs ls L st μ r h hL hst hW hS
    obtain ⟨x2, x3, x4, u0, u1, u5, rfl, rfl, h⟩ := k_X4_commonDivisor_L7_i h
    exact h7 H locs ls [none, none, some (.inl x2), some (.inl x3), some (.inl x4), none] [] μ r h (hL.less ⟨rfl, rfl, rfl, trivial⟩) hst hW hS
def f_X4_commonDivisor (N : Nat) (x0 : Int32) (x1 : Int32) (μ : ZM) : Option (Int32 × ZM) :=
  f_X4_commonDivisor_L7 N N x0 x1 0 μ
def g_X4_commonDivisor (N : Nat) (as : List ZV) (μ : ZM) : Option (Int32 × ZM) := match as with
  | [.inl x0, .inl x1] => f_X4_commonDivisor N x0 x1 μ
  | _ => none
theorem g_X4_commonDivisor_i {N : Nat} {as : List ZV} {μ : ZM} {r : Int32 × ZM} (h : g_X4_commonDivisor N as μ = some r) : ∃ (x0 : Int32) (x1 : Int32), as = [.inl x0, .inl x1] ∧ f_X4_commonDivisor N x0 x1 μ = some r := by
  unfold g_X4_commonDivisor at h
  split at h
  · exact ⟨_, _, rfl, h⟩
  · cases h
set_option maxRecDepth 100000 in
theorem c_X4_commonDivisor (N : Nat) : zk_C yX4_commonDivisor cX4_commonDivisor 6 (some .int) ({ frames := 0, cells := 0, slots := 0, locals := 0 } : Room) zq_I (g_X4_commonDivisor N) := by
  refine zk_met ?κ (by decide +kernel) ?hG ?body
  case body =>
    intro X E C
    have C : zk_X X E RX4 cX4_commonDivisor 6 (some .int) ({ frames := 0, cells := 0, slots := 0, locals := 0 } : Room) := C
    have e7 := s_X4_commonDivisor_L7 N C N
    have h5 := zs_istore (i := 4) C dX4_commonDivisor_5 e7
    have h4 := zs_iconst (v := 0) C dX4_commonDivisor_4 (by decide) h5
    have h3 := zs_istore_n (i := 3) C dX4_commonDivisor_3 rfl h4
    have h2 := zs_iload_n (i := 1) C dX4_commonDivisor_2 rfl h3
    have h1 := zs_istore_n (i := 2) C dX4_commonDivisor_1 rfl h2
    have h0 := zs_iload_n (i := 0) C dX4_commonDivisor_0 rfl h1
    exact h0
  case hG =>
    intro as μ r h
    obtain ⟨x0, x1, rfl, h⟩ := g_X4_commonDivisor_i h
    exact ⟨Nat.le_of_ble_eq_true rfl, h⟩
theorem m_X4_commonDivisor (N : Nat) : zk_MS yX4_commonDivisor cX4_commonDivisor 6 (some .int) ({ frames := 0, cells := 0, slots := 0, locals := 0 } : Room) zq_I (g_X4_commonDivisor N) 2 := ⟨c_X4_commonDivisor N, zw_448, zw_447, zw_26, rfl, rfl, by decide +kernel⟩
-- LongestWed.rows(III)I
def f_X4_rows_L82 (N : Nat) : Nat → Nat → Int32 → Int32 → Int32 → Int32 → Int32 → Int32 → Int32 → ZM → Option (Int32 × ZM)
  | 0, _, _, _, _, _, _, _, _, _ => none
  | n + 1, x0, x1, x2, x3, x4, x5, x6, x7, μ =>
    if (μ.1 (x0 + 1) 4) ≤ x7 then
      (f_X4_commonDivisor N x5 x6 μ).bind fun r1 =>
      if 0 < r1.1 then
        if ¬ x3 = 0 then
          if r1.1 = 0 then none else
          some ((x6 / r1.1), r1.2)
        else
          if r1.1 = 0 then none else
          some ((x5 / r1.1), r1.2)
      else
        some ((-1), r1.2)
    else
      (f_X3_isTogether N (x0 + 1) x7 μ).bind fun r2 =>
      if r2.1 = 0 then
        f_X4_rows_L82 N n x0 x1 x2 x3 x4 x5 x6 (x7 + 1) r2.2
      else
        let j124 : ZM → Option (Int32 × ZM) := fun μ3 =>
          (f_X3_tenthsToStay N (x0 + 1) x7 x2 μ3).bind fun r4 =>
          f_X4_rows_L82 N n x0 x1 x2 x3 x4 (x5 * (10 - r4.1)) (x6 * 10) (x7 + 1) r4.2
        if ¬ x4 = 0 then
          j124 r2.2
        else
          (f_X3_isBefore N (x0 + 1) x7 x1 r2.2).bind fun r5 =>
          if r5.1 = 0 then
            f_X4_rows_L82 N n x0 x1 x2 x3 x4 x5 x6 (x7 + 1) r5.2
          else
            j124 r5.2
def k_X4_rows_L82 (N n : Nat) : ZK (Int32 × ZM) := fun L st μ => match L, st with
  | [some (.inr (.inr (4, x0))), some (.inl x1), some (.inl x2), some (.inl x3), some (.inl x4), some (.inl x5), some (.inl x6), some (.inl x7)], [] => f_X4_rows_L82 N n x0 x1 x2 x3 x4 x5 x6 x7 μ
  | _, _ => none
theorem k_X4_rows_L82_i {N : Nat} {n : Nat} {L : ZL} {st : List ZV} {μ : ZM} {r : Int32 × ZM} (h : k_X4_rows_L82 N n L st μ = some r) : ∃ (x0 : Nat) (x1 : Int32) (x2 : Int32) (x3 : Int32) (x4 : Int32) (x5 : Int32) (x6 : Int32) (x7 : Int32), L = [some (.inr (.inr (4, x0))), some (.inl x1), some (.inl x2), some (.inl x3), some (.inl x4), some (.inl x5), some (.inl x6), some (.inl x7)] ∧ st = [] ∧ f_X4_rows_L82 N n x0 x1 x2 x3 x4 x5 x6 x7 μ = some r := by
  unfold k_X4_rows_L82 at h
  split at h
  · exact ⟨_, _, _, _, _, _, _, _, rfl, rfl, h⟩
  · cases h
set_option maxRecDepth 100000 in
theorem s_X4_rows_L82 (N : Nat) {X : ZX} {E : ZE} (C : zk_X X E RX4 cX4_rows 8 (some .int) ({ frames := 2, cells := 0, slots := 0, locals := 43 } : Room)) : ∀ n, zk_S X E 8 zq_I 82 (k_X4_rows_L82 N n) := by
  intro n
  induction n with
  | zero =>
    intro H locs ls L st μ r h hL hst hW hS
    obtain ⟨x0, x1, x2, x3, x4, x5, x6, x7, rfl, rfl, h⟩ := k_X4_rows_L82_i h
    exact nomatch (show none = some r from h)
  | succ n ih =>
    have h188 := zs_iret C dX4_rows_188
    have h187 := zs_idiv C dX4_rows_187 h188
    have h185 := zs_iload (i := 7) C dX4_rows_185 h187
    have h183 := zs_iload (i := 6) C dX4_rows_183 h185
    have h180 := zs_goto (tgt := 188) C dX4_rows_180 (by decide) h188
    have h179 := zs_idiv C dX4_rows_179 h180
    have h177 := zs_iload (i := 7) C dX4_rows_177 h179
    have h175 := zs_iload (i := 5) C dX4_rows_175 h177
    have h172 := zs_if_ne (tgt := 183) C dX4_rows_172 (by decide) h183 h175
    have h171 := zs_iload_n (i := 3) C dX4_rows_171 rfl h172
    have h170 := zs_iret C dX4_rows_170
    have h169 := zs_iconst (v := (-1)) C dX4_rows_169 (by decide) h170
    have h166 := zs_if_gt (tgt := 171) C dX4_rows_166 (by decide) h171 h169
    have h164 := zs_iload (i := 7) C dX4_rows_164 h166
    have h162 := zs_istore (i := 7) C dX4_rows_162 h164
    have h159 := zs_sI C dX4_rows_159 (m_X4_commonDivisor N) zw_446 ⟨Nat.le_of_ble_eq_true rfl, Nat.le_of_ble_eq_true rfl⟩ h162
    have h157 := zs_iload (i := 6) C dX4_rows_157 h159
    have h155 := zs_iload (i := 5) C dX4_rows_155 h157
    have h152 := zs_goto (tgt := 82) C dX4_rows_152 (by decide) ih
    have h149 := zs_iinc (n := 1) C dX4_rows_149 (by decide) h152
    have h147 := zs_istore (i := 6) C dX4_rows_147 h149
    have h146 := zs_imul C dX4_rows_146 h147
    have h144 := zs_bipush (v := 10) C dX4_rows_144 (by decide) h146
    have h142 := zs_iload (i := 6) C dX4_rows_142 h144
    have h140 := zs_istore (i := 5) C dX4_rows_140 h142
    have h139 := zs_imul C dX4_rows_139 h140
    have h138 := zs_isub C dX4_rows_138 h139
    have h135 := zs_vI C dX4_rows_135 (m_X3_tenthsToStay N) zw_438 ⟨Nat.le_of_ble_eq_true rfl, Nat.le_of_ble_eq_true rfl⟩ h138
    have h134 := zs_iload_n (i := 2) C dX4_rows_134 rfl h135
    have h132 := zs_iload (i := 7) C dX4_rows_132 h134
    have h129 := zs_gR C dX4_rows_129 zf_4_0 zw_145 h132
    have h128 := zs_aload_n (i := 0) C dX4_rows_128 rfl h129
    have h126 := zs_bipush (v := 10) C dX4_rows_126 (by decide) h128
    have h124 := zs_iload (i := 5) C dX4_rows_124 h126
    have h121 := zs_if_eq (tgt := 149) C dX4_rows_121 (by decide) h149 h124
    have h118 := zs_vI C dX4_rows_118 (m_X3_isBefore N) zw_442 ⟨Nat.le_of_ble_eq_true rfl, Nat.le_of_ble_eq_true rfl⟩ h121
    have h117 := zs_iload_n (i := 1) C dX4_rows_117 rfl h118
    have h115 := zs_iload (i := 7) C dX4_rows_115 h117
    have h112 := zs_gR C dX4_rows_112 zf_4_0 zw_145 h115
    have h111 := zs_aload_n (i := 0) C dX4_rows_111 rfl h112
    have h108 := zs_if_ne (tgt := 124) C dX4_rows_108 (by decide) h124 h111
    have h106 := zs_iload (i := 4) C dX4_rows_106 h108
    have h103 := zs_if_eq (tgt := 149) C dX4_rows_103 (by decide) h149 h106
    have h100 := zs_vI C dX4_rows_100 (m_X3_isTogether N) zw_193 ⟨Nat.le_of_ble_eq_true rfl, Nat.le_of_ble_eq_true rfl⟩ h103
    have h98 := zs_iload (i := 7) C dX4_rows_98 h100
    have h95 := zs_gR C dX4_rows_95 zf_4_0 zw_145 h98
    have h94 := zs_aload_n (i := 0) C dX4_rows_94 rfl h95
    have h91 := zs_icmp_ge (tgt := 155) C dX4_rows_91 (by decide) h155 h94
    have h88 := zs_gI C dX4_rows_88 zf_3_4 zw_58 h91
    have h85 := zs_gR C dX4_rows_85 zf_4_0 zw_145 h88
    have h84 := zs_aload_n (i := 0) C dX4_rows_84 rfl h85
    have h82 := zs_iload (i := 7) C dX4_rows_82 h84
    intro H locs ls L st μ r h hL hst hW hS
    obtain ⟨x0, x1, x2, x3, x4, x5, x6, x7, rfl, rfl, h⟩ := k_X4_rows_L82_i h
    exact h82 H locs ls [some (.inr (.inr (4, x0))), some (.inl x1), some (.inl x2), some (.inl x3), some (.inl x4), some (.inl x5), some (.inl x6), some (.inl x7)] [] μ r h (hL.less ⟨rfl, rfl, rfl, rfl, rfl, rfl, rfl, rfl, trivial⟩) hst hW hS
def f_X4_rows_J25 (N : Nat) (x0 : Nat) (x1 : Int32) (x2 : Int32) (x3 : Int32) (x4 : Int32) (μ : ZM) : Option (Int32 × ZM) :=
  (f_X4_within N x2 0 10 μ).bind fun r1 =>
  if r1.1 = 0 then
    some ((-1), r1.2)
  else
    (f_X4_within N x3 0 1 r1.2).bind fun r2 =>
    if ¬ r2.1 = 0 then
      let j64 : Int32 → ZM → Option (Int32 × ZM) := fun b3 μ4 =>
        if x4 = 0 then
          f_X4_rows_L82 N N x0 x1 x2 x3 x4 b3 10 0 μ4
        else
          f_X4_rows_L82 N N x0 x1 x2 x3 x4 b3 1 0 μ4
      if x4 = 0 then
        (f_X3_tenthsToStay N (x0 + 1) x1 x2 r2.2).bind fun r5 =>
        j64 r5.1 r5.2
      else
        j64 1 r2.2
    else
      some ((-1), r2.2)
def k_X4_rows_J25 (N : Nat) : ZK (Int32 × ZM) := fun L st μ => match L, st with
  | [some (.inr (.inr (4, x0))), some (.inl x1), some (.inl x2), some (.inl x3), some (.inl x4), _, _, _], [] => f_X4_rows_J25 N x0 x1 x2 x3 x4 μ
  | _, _ => none
theorem k_X4_rows_J25_i {N : Nat} {L : ZL} {st : List ZV} {μ : ZM} {r : Int32 × ZM} (h : k_X4_rows_J25 N L st μ = some r) : ∃ (x0 : Nat) (x1 : Int32) (x2 : Int32) (x3 : Int32) (x4 : Int32) (u5 : Option ZV) (u6 : Option ZV) (u7 : Option ZV), L = [some (.inr (.inr (4, x0))), some (.inl x1), some (.inl x2), some (.inl x3), some (.inl x4), u5, u6, u7] ∧ st = [] ∧ f_X4_rows_J25 N x0 x1 x2 x3 x4 μ = some r := by
  unfold k_X4_rows_J25 at h
  split at h
  · exact ⟨_, _, _, _, _, _, _, _, rfl, rfl, h⟩
  · cases h
set_option maxRecDepth 100000 in
theorem s_X4_rows_J25 (N : Nat) {X : ZX} {E : ZE} (C : zk_X X E RX4 cX4_rows 8 (some .int) ({ frames := 2, cells := 0, slots := 0, locals := 43 } : Room)) : zk_S X E 8 zq_I 25 (k_X4_rows_J25 N) := by
  have e82 := s_X4_rows_L82 N C N
  have h80 := zs_istore (i := 7) C dX4_rows_80 e82
  have h79 := zs_iconst (v := 0) C dX4_rows_79 (by decide) h80
  have h77 := zs_istore (i := 6) C dX4_rows_77 h79
  have h75 := zs_bipush (v := 10) C dX4_rows_75 (by decide) h77
  have h72 := zs_goto (tgt := 77) C dX4_rows_72 (by decide) h77
  have h71 := zs_iconst (v := 1) C dX4_rows_71 (by decide) h72
  have h68 := zs_if_eq (tgt := 75) C dX4_rows_68 (by decide) h75 h71
  have h66 := zs_iload (i := 4) C dX4_rows_66 h68
  have h64 := zs_istore (i := 5) C dX4_rows_64 h66
  have h61 := zs_vI C dX4_rows_61 (m_X3_tenthsToStay N) zw_438 ⟨Nat.le_of_ble_eq_true rfl, Nat.le_of_ble_eq_true rfl⟩ h64
  have h60 := zs_iload_n (i := 2) C dX4_rows_60 rfl h61
  have h59 := zs_iload_n (i := 1) C dX4_rows_59 rfl h60
  have h56 := zs_gR C dX4_rows_56 zf_4_0 zw_145 h59
  have h55 := zs_aload_n (i := 0) C dX4_rows_55 rfl h56
  have h52 := zs_goto (tgt := 64) C dX4_rows_52 (by decide) h64
  have h51 := zs_iconst (v := 1) C dX4_rows_51 (by decide) h52
  have h48 := zs_if_eq (tgt := 55) C dX4_rows_48 (by decide) h55 h51
  have h46 := zs_iload (i := 4) C dX4_rows_46 h48
  have h45 := zs_iret C dX4_rows_45
  have h44 := zs_iconst (v := (-1)) C dX4_rows_44 (by decide) h45
  have h41 := zs_if_ne (tgt := 46) C dX4_rows_41 (by decide) h46 h44
  have h38 := zs_sI C dX4_rows_38 (m_X4_within N) zw_174 ⟨Nat.le_of_ble_eq_true rfl, Nat.le_of_ble_eq_true rfl⟩ h41
  have h37 := zs_iconst (v := 1) C dX4_rows_37 (by decide) h38
  have h36 := zs_iconst (v := 0) C dX4_rows_36 (by decide) h37
  have h35 := zs_iload_n (i := 3) C dX4_rows_35 rfl h36
  have h32 := zs_if_eq (tgt := 44) C dX4_rows_32 (by decide) h44 h35
  have h29 := zs_sI C dX4_rows_29 (m_X4_within N) zw_174 ⟨Nat.le_of_ble_eq_true rfl, Nat.le_of_ble_eq_true rfl⟩ h32
  have h27 := zs_bipush (v := 10) C dX4_rows_27 (by decide) h29
  have h26 := zs_iconst (v := 0) C dX4_rows_26 (by decide) h27
  have h25 := zs_iload_n (i := 2) C dX4_rows_25 rfl h26
  intro H locs ls L st μ r h hL hst hW hS
  obtain ⟨x0, x1, x2, x3, x4, u5, u6, u7, rfl, rfl, h⟩ := k_X4_rows_J25_i h
  exact h25 H locs ls [some (.inr (.inr (4, x0))), some (.inl x1), some (.inl x2), some (.inl x3), some (.inl x4), none, none, none] [] μ r h (hL.less ⟨rfl, rfl, rfl, rfl, rfl, trivial⟩) hst hW hS
def f_X4_rows_J10 (N : Nat) (x0 : Nat) (x1 : Int32) (x2 : Int32) (x3 : Int32) (s0 : Int32) (μ : ZM) : Option (Int32 × ZM) :=
  if ¬ s0 = 0 then
    f_X4_rows_J25 N x0 x1 x2 x3 s0 μ
  else
    (f_X4_isCouple N x0 x1 μ).bind fun r1 =>
    if r1.1 = 0 then
      some ((-1), r1.2)
    else
      f_X4_rows_J25 N x0 x1 x2 x3 s0 r1.2
def k_X4_rows_J10 (N : Nat) : ZK (Int32 × ZM) := fun L st μ => match L, st with
  | [some (.inr (.inr (4, x0))), some (.inl x1), some (.inl x2), some (.inl x3), _, _, _, _], [.inl s0] => f_X4_rows_J10 N x0 x1 x2 x3 s0 μ
  | _, _ => none
theorem k_X4_rows_J10_i {N : Nat} {L : ZL} {st : List ZV} {μ : ZM} {r : Int32 × ZM} (h : k_X4_rows_J10 N L st μ = some r) : ∃ (x0 : Nat) (x1 : Int32) (x2 : Int32) (x3 : Int32) (s0 : Int32) (u4 : Option ZV) (u5 : Option ZV) (u6 : Option ZV) (u7 : Option ZV), L = [some (.inr (.inr (4, x0))), some (.inl x1), some (.inl x2), some (.inl x3), u4, u5, u6, u7] ∧ st = [.inl s0] ∧ f_X4_rows_J10 N x0 x1 x2 x3 s0 μ = some r := by
  unfold k_X4_rows_J10 at h
  split at h
  · exact ⟨_, _, _, _, _, _, _, _, _, rfl, rfl, h⟩
  · cases h
set_option maxRecDepth 100000 in
theorem s_X4_rows_J10 (N : Nat) {X : ZX} {E : ZE} (C : zk_X X E RX4 cX4_rows 8 (some .int) ({ frames := 2, cells := 0, slots := 0, locals := 43 } : Room)) : zk_S X E 8 zq_I 10 (k_X4_rows_J10 N) := by
  have e25 := s_X4_rows_J25 N C
  have h45 := zs_iret C dX4_rows_45
  have h44 := zs_iconst (v := (-1)) C dX4_rows_44 (by decide) h45
  have h22 := zs_if_eq (tgt := 44) C dX4_rows_22 (by decide) h44 e25
  have h19 := zs_vI C dX4_rows_19 (m_X4_isCouple N) zw_189 ⟨Nat.le_of_ble_eq_true rfl, Nat.le_of_ble_eq_true rfl⟩ h22
  have h18 := zs_iload_n (i := 1) C dX4_rows_18 rfl h19
  have h17 := zs_aload_n (i := 0) C dX4_rows_17 rfl h18
  have h14 := zs_if_ne (tgt := 25) C dX4_rows_14 (by decide) e25 h17
  have h12 := zs_iload (i := 4) C dX4_rows_12 h14
  have h10 := zs_istore (i := 4) C dX4_rows_10 h12
  intro H locs ls L st μ r h hL hst hW hS
  obtain ⟨x0, x1, x2, x3, s0, u4, u5, u6, u7, rfl, rfl, h⟩ := k_X4_rows_J10_i h
  exact h10 H locs ls [some (.inr (.inr (4, x0))), some (.inl x1), some (.inl x2), some (.inl x3), none, none, none, none] [.inl s0] μ r h (hL.less ⟨rfl, rfl, rfl, rfl, trivial⟩) hst hW hS
def f_X4_rows (N : Nat) (x0 : Nat) (x1 : Int32) (x2 : Int32) (x3 : Int32) (μ : ZM) : Option (Int32 × ZM) :=
  if ¬ x1 = (-1 : Int32) then
    f_X4_rows_J10 N x0 x1 x2 x3 0 μ
  else
    f_X4_rows_J10 N x0 x1 x2 x3 1 μ
def g_X4_rows (N : Nat) (as : List ZV) (μ : ZM) : Option (Int32 × ZM) := match as with
  | [.inr (.inr (4, x0)), .inl x1, .inl x2, .inl x3] => f_X4_rows N x0 x1 x2 x3 μ
  | _ => none
theorem g_X4_rows_i {N : Nat} {as : List ZV} {μ : ZM} {r : Int32 × ZM} (h : g_X4_rows N as μ = some r) : ∃ (x0 : Nat) (x1 : Int32) (x2 : Int32) (x3 : Int32), as = [.inr (.inr (4, x0)), .inl x1, .inl x2, .inl x3] ∧ f_X4_rows N x0 x1 x2 x3 μ = some r := by
  unfold g_X4_rows at h
  split at h
  · exact ⟨_, _, _, _, rfl, h⟩
  · cases h
set_option maxRecDepth 100000 in
theorem c_X4_rows (N : Nat) : zk_C yX4_rows cX4_rows 8 (some .int) ({ frames := 2, cells := 0, slots := 0, locals := 43 } : Room) zq_I (g_X4_rows N) := by
  refine zk_met ?κ (by decide +kernel) ?hG ?body
  case body =>
    intro X E C
    have C : zk_X X E RX4 cX4_rows 8 (some .int) ({ frames := 2, cells := 0, slots := 0, locals := 43 } : Room) := C
    have e10 := s_X4_rows_J10 N C
    have h9 := zs_iconst (v := 0) C dX4_rows_9 (by decide) e10
    have h6 := zs_goto (tgt := 10) C dX4_rows_6 (by decide) e10
    have h5 := zs_iconst (v := 1) C dX4_rows_5 (by decide) h6
    have h2 := zs_icmp_ne (tgt := 9) C dX4_rows_2 (by decide) h9 h5
    have h1 := zs_iconst (v := (-1)) C dX4_rows_1 (by decide) h2
    have h0 := zs_iload_n (i := 1) C dX4_rows_0 rfl h1
    exact h0
  case hG =>
    intro as μ r h
    obtain ⟨x0, x1, x2, x3, rfl, h⟩ := g_X4_rows_i h
    exact ⟨Nat.le_of_ble_eq_true rfl, h⟩
theorem m_X4_rows (N : Nat) : zk_MV yX4_rows cX4_rows 8 (some .int) ({ frames := 2, cells := 0, slots := 0, locals := 43 } : Room) zq_I (g_X4_rows N) 3 4 := ⟨c_X4_rows N, zw_437, zw_435, zw_436, zw_26, rfl, rfl, by decide +kernel, by decide, ⟨TX4, 8, rfl⟩, fun as μ r h => by obtain ⟨x0, x1, x2, x3, rfl, -⟩ := g_X4_rows_i h; exact ⟨_, _, rfl⟩⟩
-- LongestWed.image()I
def f_X4_image (N : Nat) (x0 : Nat) (μ : ZM) : Option (Int32 × ZM) :=
  (f_X3_become N (x0 + 48) (x0 + 1) μ).bind fun r1 =>
  (f_X0_become N (x0 + 53) (x0 + 6) r1).bind fun r2 =>
  let μ3 := zk_si r2 x0 7 1
  some (1, μ3)
def g_X4_image (N : Nat) (as : List ZV) (μ : ZM) : Option (Int32 × ZM) := match as with
  | [.inr (.inr (4, x0))] => f_X4_image N x0 μ
  | _ => none
theorem g_X4_image_i {N : Nat} {as : List ZV} {μ : ZM} {r : Int32 × ZM} (h : g_X4_image N as μ = some r) : ∃ (x0 : Nat), as = [.inr (.inr (4, x0))] ∧ f_X4_image N x0 μ = some r := by
  unfold g_X4_image at h
  split at h
  · exact ⟨_, rfl, h⟩
  · cases h
set_option maxRecDepth 100000 in
theorem c_X4_image (N : Nat) : zk_C yX4_image cX4_image 1 (some .int) ({ frames := 3, cells := 0, slots := 0, locals := 69 } : Room) zq_I (g_X4_image N) := by
  refine zk_met ?κ (by decide +kernel) ?hG ?body
  case body =>
    intro X E C
    have C : zk_X X E RX4 cX4_image 1 (some .int) ({ frames := 3, cells := 0, slots := 0, locals := 69 } : Room) := C
    have h28 := zs_iret C dX4_image_28
    have h27 := zs_iconst (v := 1) C dX4_image_27 (by decide) h28
    have h24 := zs_pZ C dX4_image_24 zf_4_7 zw_152 rfl (by decide +kernel) h27
    have h23 := zs_iconst (v := 1) C dX4_image_23 (by decide) h24
    have h22 := zs_aload_n (i := 0) C dX4_image_22 rfl h23
    have h19 := zs_vV C dX4_image_19 (m_X0_become N) zw_453 ⟨Nat.le_of_ble_eq_true rfl, Nat.le_of_ble_eq_true rfl⟩ h22
    have h16 := zs_gR C dX4_image_16 zf_4_1 zw_146 h19
    have h15 := zs_aload_n (i := 0) C dX4_image_15 rfl h16
    have h12 := zs_gR C dX4_image_12 zf_4_3 zw_148 h15
    have h11 := zs_aload_n (i := 0) C dX4_image_11 rfl h12
    have h8 := zs_vV C dX4_image_8 (m_X3_become N) zw_269 ⟨Nat.le_of_ble_eq_true rfl, Nat.le_of_ble_eq_true rfl⟩ h11
    have h5 := zs_gR C dX4_image_5 zf_4_0 zw_145 h8
    have h4 := zs_aload_n (i := 0) C dX4_image_4 rfl h5
    have h1 := zs_gR C dX4_image_1 zf_4_2 zw_147 h4
    have h0 := zs_aload_n (i := 0) C dX4_image_0 rfl h1
    exact h0
  case hG =>
    intro as μ r h
    obtain ⟨x0, rfl, h⟩ := g_X4_image_i h
    exact ⟨Nat.le_of_ble_eq_true rfl, h⟩
theorem m_X4_image (N : Nat) : zk_MV yX4_image cX4_image 1 (some .int) ({ frames := 3, cells := 0, slots := 0, locals := 69 } : Room) zq_I (g_X4_image N) 0 4 := ⟨c_X4_image N, zw_452, zw_450, zw_451, zw_26, rfl, rfl, by decide +kernel, by decide, ⟨TX4, 8, rfl⟩, fun as μ r h => by obtain ⟨x0, rfl, -⟩ := g_X4_image_i h; exact ⟨_, _, rfl⟩⟩
