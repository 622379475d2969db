-- LongestWed$Sheet.reaches(II)Z
def f_X1_reaches (N : Nat) (x0 : Nat) (x1 : Int32) (x2 : Int32) (μ : ZM) : Option (Int32 × ZM) :=
  if x1 < 0 then
    zk_zr 0 μ
  else
    if x2 < 0 then
      zk_zr 0 μ
    else
      if ((μ.1 x0 2) - x2) < x1 then
        zk_zr 0 μ
      else
        zk_zr 1 μ
def g_X1_reaches (N : Nat) (as : List ZV) (μ : ZM) : Option (Int32 × ZM) := match as with
  | [.inr (.inr (1, x0)), .inl x1, .inl x2] => f_X1_reaches N x0 x1 x2 μ
  | _ => none
theorem g_X1_reaches_i {N : Nat} {as : List ZV} {μ : ZM} {r : Int32 × ZM} (h : g_X1_reaches N as μ = some r) : ∃ (x0 : Nat) (x1 : Int32) (x2 : Int32), as = [.inr (.inr (1, x0)), .inl x1, .inl x2] ∧ f_X1_reaches N x0 x1 x2 μ = some r := by
  unfold g_X1_reaches at h
  split at h
  · exact ⟨_, _, _, rfl, h⟩
  · cases h
set_option maxRecDepth 100000 in
theorem c_X1_reaches (N : Nat) : zk_C yX1_reaches cX1_reaches 3 (some .boolean) ({ frames := 0, cells := 0, slots := 0, locals := 0 } : Room) zq_I (g_X1_reaches N) := by
  refine zk_met ?κ (by decide +kernel) ?hG ?body
  case body =>
    intro X E C
    have C : zk_X X E RX1 cX1_reaches 3 (some .boolean) ({ frames := 0, cells := 0, slots := 0, locals := 0 } : Room) := C
    have h23 := zs_zret C dX1_reaches_23
    have h22 := zs_iconst (v := 0) C dX1_reaches_22 (by decide) h23
    have h19 := zs_goto (tgt := 23) C dX1_reaches_19 (by decide) h23
    have h18 := zs_iconst (v := 1) C dX1_reaches_18 (by decide) h19
    have h15 := zs_icmp_gt (tgt := 22) C dX1_reaches_15 (by decide) h22 h18
    have h14 := zs_isub C dX1_reaches_14 h15
    have h13 := zs_iload_n (i := 2) C dX1_reaches_13 rfl h14
    have h10 := zs_gI C dX1_reaches_10 zf_1_2 zw_135 h13
    have h9 := zs_aload_n (i := 0) C dX1_reaches_9 rfl h10
    have h8 := zs_iload_n (i := 1) C dX1_reaches_8 rfl h9
    have h5 := zs_if_lt (tgt := 22) C dX1_reaches_5 (by decide) h22 h8
    have h4 := zs_iload_n (i := 2) C dX1_reaches_4 rfl h5
    have h1 := zs_if_lt (tgt := 22) C dX1_reaches_1 (by decide) h22 h4
    have h0 := zs_iload_n (i := 1) C dX1_reaches_0 rfl h1
    exact h0
  case hG =>
    intro as μ r h
    obtain ⟨x0, x1, x2, rfl, h⟩ := g_X1_reaches_i h
    exact ⟨Nat.le_of_ble_eq_true rfl, h⟩
theorem m_X1_reaches (N : Nat) : zk_MV yX1_reaches cX1_reaches 3 (some .boolean) ({ frames := 0, cells := 0, slots := 0, locals := 0 } : Room) zq_I (g_X1_reaches N) 2 1 := ⟨c_X1_reaches N, zw_478, zw_476, zw_477, zw_30, rfl, rfl, by decide +kernel, by decide, ⟨TX1, 3, rfl⟩, fun as μ r h => by obtain ⟨x0, x1, x2, rfl, -⟩ := g_X1_reaches_i h; exact ⟨_, _, rfl⟩⟩
-- LongestWed$Sheet.faultOf(III)I
def f_X1_faultOf (N : Nat) (x0 : Nat) (x1 : Int32) (x2 : Int32) (x3 : Int32) (μ : ZM) : Option (Int32 × ZM) :=
  if ¬ (μ.1 x0 1) = (-1 : Int32) then
    if (μ.1 x0 1) = x1 then
      (f_X1_reaches N x0 x2 x3 μ).bind fun r1 =>
      if r1.1 = 0 then
        some ((-13), r1.2)
      else
        some (0, r1.2)
    else
      some ((-12), μ)
  else
    some ((-11), μ)
def g_X1_faultOf (N : Nat) (as : List ZV) (μ : ZM) : Option (Int32 × ZM) := match as with
  | [.inr (.inr (1, x0)), .inl x1, .inl x2, .inl x3] => f_X1_faultOf N x0 x1 x2 x3 μ
  | _ => none
theorem g_X1_faultOf_i {N : Nat} {as : List ZV} {μ : ZM} {r : Int32 × ZM} (h : g_X1_faultOf N as μ = some r) : ∃ (x0 : Nat) (x1 : Int32) (x2 : Int32) (x3 : Int32), as = [.inr (.inr (1, x0)), .inl x1, .inl x2, .inl x3] ∧ f_X1_faultOf N x0 x1 x2 x3 μ = some r := by
  unfold g_X1_faultOf at h
  split at h
  · exact ⟨_, _, _, _, rfl, h⟩
  · cases h
set_option maxRecDepth 100000 in
theorem c_X1_faultOf (N : Nat) : zk_C yX1_faultOf cX1_faultOf 4 (some .int) ({ frames := 1, cells := 0, slots := 0, locals := 22 } : Room) zq_I (g_X1_faultOf N) := by
  refine zk_met ?κ (by decide +kernel) ?hG ?body
  case body =>
    intro X E C
    have C : zk_X X E RX1 cX1_faultOf 4 (some .int) ({ frames := 1, cells := 0, slots := 0, locals := 22 } : Room) := C
    have h37 := zs_iret C dX1_faultOf_37
    have h35 := zs_bipush (v := (-13)) C dX1_faultOf_35 (by decide) h37
    have h32 := zs_goto (tgt := 37) C dX1_faultOf_32 (by decide) h37
    have h31 := zs_iconst (v := 0) C dX1_faultOf_31 (by decide) h32
    have h28 := zs_if_eq (tgt := 35) C dX1_faultOf_28 (by decide) h35 h31
    have h25 := zs_vI C dX1_faultOf_25 (m_X1_reaches N) zw_475 ⟨Nat.le_of_ble_eq_true rfl, Nat.le_of_ble_eq_true rfl⟩ h28
    have h24 := zs_iload_n (i := 3) C dX1_faultOf_24 rfl h25
    have h23 := zs_iload_n (i := 2) C dX1_faultOf_23 rfl h24
    have h22 := zs_aload_n (i := 0) C dX1_faultOf_22 rfl h23
    have h21 := zs_iret C dX1_faultOf_21
    have h19 := zs_bipush (v := (-12)) C dX1_faultOf_19 (by decide) h21
    have h16 := zs_icmp_eq (tgt := 22) C dX1_faultOf_16 (by decide) h22 h19
    have h15 := zs_iload_n (i := 1) C dX1_faultOf_15 rfl h16
    have h12 := zs_gI C dX1_faultOf_12 zf_1_1 zw_133 h15
    have h11 := zs_aload_n (i := 0) C dX1_faultOf_11 rfl h12
    have h10 := zs_iret C dX1_faultOf_10
    have h8 := zs_bipush (v := (-11)) C dX1_faultOf_8 (by decide) h10
    have h5 := zs_icmp_ne (tgt := 11) C dX1_faultOf_5 (by decide) h11 h8
    have h4 := zs_iconst (v := (-1)) C dX1_faultOf_4 (by decide) h5
    have h1 := zs_gI C dX1_faultOf_1 zf_1_1 zw_133 h4
    have h0 := zs_aload_n (i := 0) C dX1_faultOf_0 rfl h1
    exact h0
  case hG =>
    intro as μ r h
    obtain ⟨x0, x1, x2, x3, rfl, h⟩ := g_X1_faultOf_i h
    exact ⟨Nat.le_of_ble_eq_true rfl, h⟩
theorem m_X1_faultOf (N : Nat) : zk_MV yX1_faultOf cX1_faultOf 4 (some .int) ({ frames := 1, cells := 0, slots := 0, locals := 22 } : Room) zq_I (g_X1_faultOf N) 3 1 := ⟨c_X1_faultOf N, zw_474, zw_472, zw_473, zw_30, rfl, rfl, by decide +kernel, by decide, ⟨TX1, 3, rfl⟩, fun as μ r h => by obtain ⟨x0, x1, x2, x3, rfl, -⟩ := g_X1_faultOf_i h; exact ⟨_, _, rfl⟩⟩
-- LongestWed$Sheet.lowestBits(J)J
def f_X1_lowestBits (N : Nat) (x0 : Nat) (x1 : Int64) (μ : ZM) : Option (Int64 × ZM) :=
  if (μ.1 x0 1) = 0 then
    some ((Int32.toInt64 (Int8.toInt32 (Int32.toInt8 (Int64.toInt32 x1)))), μ)
  else
  if (μ.1 x0 1) = 1 then
    some ((Int32.toInt64 (Int16.toInt32 (Int32.toInt16 (Int64.toInt32 x1)))), μ)
  else
  if (μ.1 x0 1) = 2 then
    some ((Int32.toInt64 (Int64.toInt32 x1)), μ)
  else
    some (x1, μ)
def g_X1_lowestBits (N : Nat) (as : List ZV) (μ : ZM) : Option (Int64 × ZM) := match as with
  | [.inr (.inr (1, x0)), .inr (.inl x1)] => f_X1_lowestBits N x0 x1 μ
  | _ => none
theorem g_X1_lowestBits_i {N : Nat} {as : List ZV} {μ : ZM} {r : Int64 × ZM} (h : g_X1_lowestBits N as μ = some r) : ∃ (x0 : Nat) (x1 : Int64), as = [.inr (.inr (1, x0)), .inr (.inl x1)] ∧ f_X1_lowestBits N x0 x1 μ = some r := by
  unfold g_X1_lowestBits at h
  split at h
  · exact ⟨_, _, rfl, h⟩
  · cases h
set_option maxRecDepth 100000 in
theorem c_X1_lowestBits (N : Nat) : zk_C yX1_lowestBits cX1_lowestBits 3 (some .long) ({ frames := 0, cells := 0, slots := 0, locals := 0 } : Room) zq_J (g_X1_lowestBits N) := by
  refine zk_met ?κ (by decide +kernel) ?hG ?body
  case body =>
    intro X E C
    have C : zk_X X E RX1 cX1_lowestBits 3 (some .long) ({ frames := 0, cells := 0, slots := 0, locals := 0 } : Room) := C
    have h47 := zs_lret C dX1_lowestBits_47
    have h46 := zs_lload_n (i := 1) C dX1_lowestBits_46 rfl h47
    have h45 := zs_lret C dX1_lowestBits_45
    have h44 := zs_i2l C dX1_lowestBits_44 h45
    have h43 := zs_l2i C dX1_lowestBits_43 h44
    have h42 := zs_lload_n (i := 1) C dX1_lowestBits_42 rfl h43
    have h41 := zs_lret C dX1_lowestBits_41
    have h40 := zs_i2l C dX1_lowestBits_40 h41
    have h39 := zs_i2s C dX1_lowestBits_39 h40
    have h38 := zs_l2i C dX1_lowestBits_38 h39
    have h37 := zs_lload_n (i := 1) C dX1_lowestBits_37 rfl h38
    have h36 := zs_lret C dX1_lowestBits_36
    have h35 := zs_i2l C dX1_lowestBits_35 h36
    have h34 := zs_i2b C dX1_lowestBits_34 h35
    have h33 := zs_l2i C dX1_lowestBits_33 h34
    have h32 := zs_lload_n (i := 1) C dX1_lowestBits_32 rfl h33
    have h4 := zs_tab (q := zq_J) (cs := [(0, _), (1, _), (2, _)]) (xs := [0, 1, 2]) (tg := (fun x => if x = 0 then 32 else if x = 1 then 37 else if x = 2 then 42 else 0)) (tgt := 46) C dX1_lowestBits_4 (by decide) (by decide) rfl (by decide +kernel) (by decide +kernel) (List.forall_mem_cons.mpr ⟨h32, (List.forall_mem_cons.mpr ⟨h37, (List.forall_mem_cons.mpr ⟨h42, (fun _ h => absurd h List.not_mem_nil)⟩)⟩)⟩) h46
    have h1 := zs_gI C dX1_lowestBits_1 zf_1_1 zw_133 h4
    have h0 := zs_aload_n (i := 0) C dX1_lowestBits_0 rfl h1
    exact h0
  case hG =>
    intro as μ r h
    obtain ⟨x0, x1, rfl, h⟩ := g_X1_lowestBits_i h
    exact ⟨Nat.le_of_ble_eq_true rfl, h⟩
theorem m_X1_lowestBits (N : Nat) : zk_MV yX1_lowestBits cX1_lowestBits 3 (some .long) ({ frames := 0, cells := 0, slots := 0, locals := 0 } : Room) zq_J (g_X1_lowestBits N) 1 1 := ⟨c_X1_lowestBits N, zw_514, zw_512, zw_513, zw_30, rfl, rfl, by decide +kernel, by decide, ⟨TX1, 3, rfl⟩, fun as μ r h => by obtain ⟨x0, x1, rfl, -⟩ := g_X1_lowestBits_i h; exact ⟨_, _, rfl⟩⟩
-- LongestWed$Sheet.put(IJ)V
def f_X1_put (N : Nat) (x0 : Nat) (x1 : Int32) (x2 : Int64) (μ : ZM) : Option (ZM) :=
  if x1 < 0 then
    some μ
  else
    if (μ.1 x0 2) ≤ x1 then
      some μ
    else
      (f_X1_lowestBits N x0 x2 μ).bind fun r1 =>
      if zk_o x1 24 = true then none else
      let μ2 := zk_sj r1.2 (x0 + 1) (Int32.toNatClampNeg x1) r1.1
      some μ2
def g_X1_put (N : Nat) (as : List ZV) (μ : ZM) : Option (ZM) := match as with
  | [.inr (.inr (1, x0)), .inl x1, .inr (.inl x2)] => f_X1_put N x0 x1 x2 μ
  | _ => none
theorem g_X1_put_i {N : Nat} {as : List ZV} {μ : ZM} {r : ZM} (h : g_X1_put N as μ = some r) : ∃ (x0 : Nat) (x1 : Int32) (x2 : Int64), as = [.inr (.inr (1, x0)), .inl x1, .inr (.inl x2)] ∧ f_X1_put N x0 x1 x2 μ = some r := by
  unfold g_X1_put at h
  split at h
  · exact ⟨_, _, _, rfl, h⟩
  · cases h
set_option maxRecDepth 100000 in
theorem c_X1_put (N : Nat) : zk_C yX1_put cX1_put 4 none ({ frames := 1, cells := 0, slots := 0, locals := 22 } : Room) zq_V (g_X1_put N) := by
  refine zk_met ?κ (by decide +kernel) ?hG ?body
  case body =>
    intro X E C
    have C : zk_X X E RX1 cX1_put 4 none ({ frames := 1, cells := 0, slots := 0, locals := 22 } : Room) := C
    have h23 := zs_vret C dX1_put_23
    have h22 := zs_last (n := 24) C dX1_put_22 (by decide) h23
    have h19 := zs_vJ C dX1_put_19 (m_X1_lowestBits N) zw_511 ⟨Nat.le_of_ble_eq_true rfl, Nat.le_of_ble_eq_true rfl⟩ h22
    have h18 := zs_lload_n (i := 2) C dX1_put_18 rfl h19
    have h17 := zs_aload_n (i := 0) C dX1_put_17 rfl h18
    have h16 := zs_iload_n (i := 1) C dX1_put_16 rfl h17
    have h13 := zs_gR C dX1_put_13 zf_1_0 zw_131 h16
    have h12 := zs_aload_n (i := 0) C dX1_put_12 rfl h13
    have h9 := zs_icmp_ge (tgt := 23) C dX1_put_9 (by decide) h23 h12
    have h6 := zs_gI C dX1_put_6 zf_1_2 zw_135 h9
    have h5 := zs_aload_n (i := 0) C dX1_put_5 rfl h6
    have h4 := zs_iload_n (i := 1) C dX1_put_4 rfl h5
    have h1 := zs_if_lt (tgt := 23) C dX1_put_1 (by decide) h23 h4
    have h0 := zs_iload_n (i := 1) C dX1_put_0 rfl h1
    exact h0
  case hG =>
    intro as μ r h
    obtain ⟨x0, x1, x2, rfl, h⟩ := g_X1_put_i h
    exact ⟨Nat.le_of_ble_eq_true rfl, h⟩
theorem m_X1_put (N : Nat) : zk_MV yX1_put cX1_put 4 none ({ frames := 1, cells := 0, slots := 0, locals := 22 } : Room) zq_V (g_X1_put N) 2 1 := ⟨c_X1_put N, zw_510, zw_508, zw_509, zw_30, rfl, rfl, by decide +kernel, by decide, ⟨TX1, 3, rfl⟩, fun as μ r h => by obtain ⟨x0, x1, x2, rfl, -⟩ := g_X1_put_i h; exact ⟨_, _, rfl⟩⟩
-- LongestWed$Sheet.renew(II)V
def f_X1_renew_L2 (N : Nat) : Nat → Nat → Int32 → Int32 → Int32 → ZM → Option (ZM)
  | 0, _, _, _, _, _ => none
  | n + 1, x0, x1, x2, x3, μ =>
    if (24 : Int32) ≤ x3 then
      let μ1 := zk_si μ x0 1 x1
      let μ2 := zk_si μ1 x0 2 x2
      some μ2
    else
      if zk_o x3 24 = true then none else
      let μ3 := zk_sj μ (x0 + 1) (Int32.toNatClampNeg x3) 0
      f_X1_renew_L2 N n x0 x1 x2 (x3 + 1) μ3
def k_X1_renew_L2 (N n : Nat) : ZK (ZM) := fun L st μ => match L, st with
  | [some (.inr (.inr (1, x0))), some (.inl x1), some (.inl x2), some (.inl x3)], [] => f_X1_renew_L2 N n x0 x1 x2 x3 μ
  | _, _ => none
theorem k_X1_renew_L2_i {N : Nat} {n : Nat} {L : ZL} {st : List ZV} {μ : ZM} {r : ZM} (h : k_X1_renew_L2 N n L st μ = some r) : ∃ (x0 : Nat) (x1 : Int32) (x2 : Int32) (x3 : Int32), L = [some (.inr (.inr (1, x0))), some (.inl x1), some (.inl x2), some (.inl x3)] ∧ st = [] ∧ f_X1_renew_L2 N n x0 x1 x2 x3 μ = some r := by
  unfold k_X1_renew_L2 at h
  split at h
  · exact ⟨_, _, _, _, rfl, rfl, h⟩
  · cases h
set_option maxRecDepth 100000 in
theorem s_X1_renew_L2 (N : Nat) {X : ZX} {E : ZE} (C : zk_X X E RX1 cX1_renew 4 none ({ frames := 0, cells := 0, slots := 0, locals := 0 } : Room)) : ∀ n, zk_S X E 4 zq_V 2 (k_X1_renew_L2 N n) := by
  intro n
  induction n with
  | zero =>
    intro H locs ls L st μ r h hL hst hW hS
    obtain ⟨x0, x1, x2, x3, rfl, rfl, h⟩ := k_X1_renew_L2_i h
    exact nomatch (show none = some r from h)
  | succ n ih =>
    have h31 := zs_vret C dX1_renew_31
    have h28 := zs_pI C dX1_renew_28 zf_1_2 zw_135 rfl (by decide +kernel) h31
    have h27 := zs_iload_n (i := 2) C dX1_renew_27 rfl h28
    have h26 := zs_aload_n (i := 0) C dX1_renew_26 rfl h27
    have h23 := zs_pI C dX1_renew_23 zf_1_1 zw_133 rfl (by decide +kernel) h26
    have h22 := zs_iload_n (i := 1) C dX1_renew_22 rfl h23
    have h21 := zs_aload_n (i := 0) C dX1_renew_21 rfl h22
    have h18 := zs_goto (tgt := 2) C dX1_renew_18 (by decide) ih
    have h15 := zs_iinc (n := 1) C dX1_renew_15 (by decide) h18
    have h14 := zs_last (n := 24) C dX1_renew_14 (by decide) h15
    have h13 := zs_lconst (v := 0) C dX1_renew_13 (by decide) h14
    have h12 := zs_iload_n (i := 3) C dX1_renew_12 rfl h13
    have h9 := zs_gR C dX1_renew_9 zf_1_0 zw_131 h12
    have h8 := zs_aload_n (i := 0) C dX1_renew_8 rfl h9
    have h5 := zs_icmp_ge (tgt := 21) C dX1_renew_5 (by decide) h21 h8
    have h3 := zs_bipush (v := 24) C dX1_renew_3 (by decide) h5
    have h2 := zs_iload_n (i := 3) C dX1_renew_2 rfl h3
    intro H locs ls L st μ r h hL hst hW hS
    obtain ⟨x0, x1, x2, x3, rfl, rfl, h⟩ := k_X1_renew_L2_i h
    exact h2 H locs ls [some (.inr (.inr (1, x0))), some (.inl x1), some (.inl x2), some (.inl x3)] [] μ r h (hL.less ⟨rfl, rfl, rfl, rfl, trivial⟩) hst hW hS
def f_X1_renew (N : Nat) (x0 : Nat) (x1 : Int32) (x2 : Int32) (μ : ZM) : Option (ZM) :=
  f_X1_renew_L2 N N x0 x1 x2 0 μ
def g_X1_renew (N : Nat) (as : List ZV) (μ : ZM) : Option (ZM) := match as with
  | [.inr (.inr (1, x0)), .inl x1, .inl x2] => f_X1_renew N x0 x1 x2 μ
  | _ => none
theorem g_X1_renew_i {N : Nat} {as : List ZV} {μ : ZM} {r : ZM} (h : g_X1_renew N as μ = some r) : ∃ (x0 : Nat) (x1 : Int32) (x2 : Int32), as = [.inr (.inr (1, x0)), .inl x1, .inl x2] ∧ f_X1_renew N x0 x1 x2 μ = some r := by
  unfold g_X1_renew at h
  split at h
  · exact ⟨_, _, _, rfl, h⟩
  · cases h
set_option maxRecDepth 100000 in
theorem c_X1_renew (N : Nat) : zk_C yX1_renew cX1_renew 4 none ({ frames := 0, cells := 0, slots := 0, locals := 0 } : Room) zq_V (g_X1_renew N) := by
  refine zk_met ?κ (by decide +kernel) ?hG ?body
  case body =>
    intro X E C
    have C : zk_X X E RX1 cX1_renew 4 none ({ frames := 0, cells := 0, slots := 0, locals := 0 } : Room) := C
    have e2 := s_X1_renew_L2 N C N
    have h1 := zs_istore_n (i := 3) C dX1_renew_1 rfl e2
    have h0 := zs_iconst (v := 0) C dX1_renew_0 (by decide) h1
    exact h0
  case hG =>
    intro as μ r h
    obtain ⟨x0, x1, x2, rfl, h⟩ := g_X1_renew_i h
    exact ⟨Nat.le_of_ble_eq_true rfl, h⟩
theorem m_X1_renew (N : Nat) : zk_MV yX1_renew cX1_renew 4 none ({ frames := 0, cells := 0, slots := 0, locals := 0 } : Room) zq_V (g_X1_renew N) 2 1 := ⟨c_X1_renew N, zw_522, zw_520, zw_521, zw_30, rfl, rfl, by decide +kernel, by decide, ⟨TX1, 3, rfl⟩, fun as μ r h => by obtain ⟨x0, x1, x2, rfl, -⟩ := g_X1_renew_i h; exact ⟨_, _, rfl⟩⟩
