-- LongestWedModel.know()V
def f_X5_know_L51 (N : Nat) : Nat → Nat → Int32 → ZM → Option (ZM)
  | 0, _, _, _ => none
  | n + 1, x0, x1, μ =>
    if (32 : Int32) ≤ x1 then
      let μ1 := zk_si μ x0 3 ((μ.1 x0 3) + 1)
      some μ1
    else
      if zk_o x1 32 = true then none else
      if zk_o ((32 * (μ.1 x0 3)) + x1) 256 = true then none else
      let μ2 := zk_si μ (x0 + 3) (Int32.toNatClampNeg ((32 * (μ.1 x0 3)) + x1)) (μ.1 (x0 + 1) (Int32.toNatClampNeg x1))
      f_X5_know_L51 N n x0 (x1 + 1) μ2
def k_X5_know_L51 (N n : Nat) : ZK (ZM) := fun L st μ => match L, st with
  | [some (.inr (.inr (5, x0))), some (.inl x1)], [] => f_X5_know_L51 N n x0 x1 μ
  | _, _ => none
theorem k_X5_know_L51_i {N : Nat} {n : Nat} {L : ZL} {st : List ZV} {μ : ZM} {r : ZM} (h : k_X5_know_L51 N n L st μ = some r) : ∃ (x0 : Nat) (x1 : Int32), L = [some (.inr (.inr (5, x0))), some (.inl x1)] ∧ st = [] ∧ f_X5_know_L51 N n x0 x1 μ = some r := by
  unfold k_X5_know_L51 at h
  split at h
  · exact ⟨_, _, rfl, rfl, h⟩
  · cases h
set_option maxRecDepth 100000 in
theorem s_X5_know_L51 (N : Nat) {X : ZX} {E : ZE} (C : zk_X X E RX5 cX5_know 2 none ({ frames := 0, cells := 0, slots := 0, locals := 0 } : Room)) : ∀ n, zk_S X E 2 zq_V 51 (k_X5_know_L51 N n) := by
  intro n
  induction n with
  | zero =>
    intro H locs ls L st μ r h hL hst hW hS
    obtain ⟨x0, x1, rfl, rfl, h⟩ := k_X5_know_L51_i h
    exact nomatch (show none = some r from h)
  | succ n ih =>
    have h93 := zs_vret C dX5_know_93
    have h90 := zs_pI C dX5_know_90 zf_5_3 zw_546 rfl (by decide +kernel) h93
    have h89 := zs_iadd C dX5_know_89 h90
    have h88 := zs_iconst (v := 1) C dX5_know_88 (by decide) h89
    have h85 := zs_gI C dX5_know_85 zf_5_3 zw_546 h88
    have h84 := zs_dup C dX5_know_84 h85
    have h83 := zs_aload_n (i := 0) C dX5_know_83 rfl h84
    have h80 := zs_goto (tgt := 51) C dX5_know_80 (by decide) ih
    have h77 := zs_iinc (n := 1) C dX5_know_77 (by decide) h80
    have h76 := zs_iast (n := 256) C dX5_know_76 (by decide) h77
    have h75 := zs_iald (n := 32) C dX5_know_75 (by decide) h76
    have h74 := zs_iload_n (i := 1) C dX5_know_74 rfl h75
    have h71 := zs_gR C dX5_know_71 zf_5_0 zw_543 h74
    have h70 := zs_aload_n (i := 0) C dX5_know_70 rfl h71
    have h69 := zs_iadd C dX5_know_69 h70
    have h68 := zs_iload_n (i := 1) C dX5_know_68 rfl h69
    have h67 := zs_imul C dX5_know_67 h68
    have h64 := zs_gI C dX5_know_64 zf_5_3 zw_546 h67
    have h63 := zs_aload_n (i := 0) C dX5_know_63 rfl h64
    have h61 := zs_bipush (v := 32) C dX5_know_61 (by decide) h63
    have h58 := zs_gR C dX5_know_58 zf_5_2 zw_545 h61
    have h57 := zs_aload_n (i := 0) C dX5_know_57 rfl h58
    have h54 := zs_icmp_ge (tgt := 83) C dX5_know_54 (by decide) h83 h57
    have h52 := zs_bipush (v := 32) C dX5_know_52 (by decide) h54
    have h51 := zs_iload_n (i := 1) C dX5_know_51 rfl h52
    intro H locs ls L st μ r h hL hst hW hS
    obtain ⟨x0, x1, rfl, rfl, h⟩ := k_X5_know_L51_i h
    exact h51 H locs ls [some (.inr (.inr (5, x0))), some (.inl x1)] [] μ r h (hL.less ⟨rfl, rfl, trivial⟩) hst hW hS
def f_X5_know_L11 (N : Nat) : Nat → Nat → Int32 → ZM → Option (ZM)
  | 0, _, _, _ => none
  | n + 1, x0, x1, μ =>
    if (224 : Int32) ≤ x1 then
      let μ1 := zk_si μ x0 3 ((μ.1 x0 3) - 1)
      f_X5_know_L51 N N x0 0 μ1
    else
      if zk_o (32 + x1) 256 = true then none else
      if zk_o x1 256 = true then none else
      let μ2 := zk_si μ (x0 + 3) (Int32.toNatClampNeg x1) (μ.1 (x0 + 3) (Int32.toNatClampNeg (32 + x1)))
      f_X5_know_L11 N n x0 (x1 + 1) μ2
def k_X5_know_L11 (N n : Nat) : ZK (ZM) := fun L st μ => match L, st with
  | [some (.inr (.inr (5, x0))), some (.inl x1)], [] => f_X5_know_L11 N n x0 x1 μ
  | _, _ => none
theorem k_X5_know_L11_i {N : Nat} {n : Nat} {L : ZL} {st : List ZV} {μ : ZM} {r : ZM} (h : k_X5_know_L11 N n L st μ = some r) : ∃ (x0 : Nat) (x1 : Int32), L = [some (.inr (.inr (5, x0))), some (.inl x1)] ∧ st = [] ∧ f_X5_know_L11 N n x0 x1 μ = some r := by
  unfold k_X5_know_L11 at h
  split at h
  · exact ⟨_, _, rfl, rfl, h⟩
  · cases h
set_option maxRecDepth 100000 in
theorem s_X5_know_L11 (N : Nat) {X : ZX} {E : ZE} (C : zk_X X E RX5 cX5_know 2 none ({ frames := 0, cells := 0, slots := 0, locals := 0 } : Room)) : ∀ n, zk_S X E 2 zq_V 11 (k_X5_know_L11 N n) := by
  intro n
  induction n with
  | zero =>
    intro H locs ls L st μ r h hL hst hW hS
    obtain ⟨x0, x1, rfl, rfl, h⟩ := k_X5_know_L11_i h
    exact nomatch (show none = some r from h)
  | succ n ih =>
    have e51 := s_X5_know_L51 N C N
    have h50 := zs_istore_n (i := 1) C dX5_know_50 rfl e51
    have h49 := zs_iconst (v := 0) C dX5_know_49 (by decide) h50
    have h46 := zs_pI C dX5_know_46 zf_5_3 zw_546 rfl (by decide +kernel) h49
    have h45 := zs_isub C dX5_know_45 h46
    have h44 := zs_iconst (v := 1) C dX5_know_44 (by decide) h45
    have h41 := zs_gI C dX5_know_41 zf_5_3 zw_546 h44
    have h40 := zs_dup C dX5_know_40 h41
    have h39 := zs_aload_n (i := 0) C dX5_know_39 rfl h40
    have h36 := zs_goto (tgt := 11) C dX5_know_36 (by decide) ih
    have h33 := zs_iinc (n := 1) C dX5_know_33 (by decide) h36
    have h32 := zs_iast (n := 256) C dX5_know_32 (by decide) h33
    have h31 := zs_iald (n := 256) C dX5_know_31 (by decide) h32
    have h30 := zs_iadd C dX5_know_30 h31
    have h29 := zs_iload_n (i := 1) C dX5_know_29 rfl h30
    have h27 := zs_bipush (v := 32) C dX5_know_27 (by decide) h29
    have h24 := zs_gR C dX5_know_24 zf_5_2 zw_545 h27
    have h23 := zs_aload_n (i := 0) C dX5_know_23 rfl h24
    have h22 := zs_iload_n (i := 1) C dX5_know_22 rfl h23
    have h19 := zs_gR C dX5_know_19 zf_5_2 zw_545 h22
    have h18 := zs_aload_n (i := 0) C dX5_know_18 rfl h19
    have h15 := zs_icmp_ge (tgt := 39) C dX5_know_15 (by decide) h39 h18
    have h12 := zs_sipush (v := 224) C dX5_know_12 (by decide) h15
    have h11 := zs_iload_n (i := 1) C dX5_know_11 rfl h12
    intro H locs ls L st μ r h hL hst hW hS
    obtain ⟨x0, x1, rfl, rfl, h⟩ := k_X5_know_L11_i h
    exact h11 H locs ls [some (.inr (.inr (5, x0))), some (.inl x1)] [] μ r h (hL.less ⟨rfl, rfl, trivial⟩) hst hW hS
def f_X5_know (N : Nat) (x0 : Nat) (μ : ZM) : Option (ZM) :=
  if ¬ (μ.1 x0 3) = (8 : Int32) then
    f_X5_know_L51 N N x0 0 μ
  else
    f_X5_know_L11 N N x0 0 μ
def g_X5_know (N : Nat) (as : List ZV) (μ : ZM) : Option (ZM) := match as with
  | [.inr (.inr (5, x0))] => f_X5_know N x0 μ
  | _ => none
theorem g_X5_know_i {N : Nat} {as : List ZV} {μ : ZM} {r : ZM} (h : g_X5_know N as μ = some r) : ∃ (x0 : Nat), as = [.inr (.inr (5, x0))] ∧ f_X5_know N x0 μ = some r := by
  unfold g_X5_know at h
  split at h
  · exact ⟨_, rfl, h⟩
  · cases h
set_option maxRecDepth 100000 in
theorem c_X5_know (N : Nat) : zk_C yX5_know cX5_know 2 none ({ frames := 0, cells := 0, slots := 0, locals := 0 } : Room) zq_V (g_X5_know N) := by
  refine zk_met ?κ (by decide +kernel) ?hG ?body
  case body =>
    intro X E C
    have C : zk_X X E RX5 cX5_know 2 none ({ frames := 0, cells := 0, slots := 0, locals := 0 } : Room) := C
    have e11 := s_X5_know_L11 N C N
    have e51 := s_X5_know_L51 N C N
    have h50 := zs_istore_n (i := 1) C dX5_know_50 rfl e51
    have h49 := zs_iconst (v := 0) C dX5_know_49 (by decide) h50
    have h10 := zs_istore_n (i := 1) C dX5_know_10 rfl e11
    have h9 := zs_iconst (v := 0) C dX5_know_9 (by decide) h10
    have h6 := zs_icmp_ne (tgt := 49) C dX5_know_6 (by decide) h49 h9
    have h4 := zs_bipush (v := 8) C dX5_know_4 (by decide) h6
    have h1 := zs_gI C dX5_know_1 zf_5_3 zw_546 h4
    have h0 := zs_aload_n (i := 0) C dX5_know_0 rfl h1
    exact h0
  case hG =>
    intro as μ r h
    obtain ⟨x0, rfl, h⟩ := g_X5_know_i h
    exact ⟨Nat.le_of_ble_eq_true rfl, h⟩
theorem m_X5_know (N : Nat) : zk_MV yX5_know cX5_know 2 none ({ frames := 0, cells := 0, slots := 0, locals := 0 } : Room) zq_V (g_X5_know N) 0 5 := ⟨c_X5_know N, zw_677, zw_676, zw_19, zw_31, rfl, rfl, by decide +kernel, by decide, ⟨TX5, 18, rfl⟩, fun as μ r h => by obtain ⟨x0, rfl, -⟩ := g_X5_know_i h; exact ⟨_, _, rfl⟩⟩
-- LongestWedModel.passOn([I)V
def f_X5_passOn_L62 (N : Nat) : Nat → Nat → Nat → Int32 → ZM → Option (ZM)
  | 0, _, _, _, _ => none
  | n + 1, x0, x1, x2, μ =>
    if (μ.1 x1 0) ≤ x2 then
      let μ1 := zk_si μ x1 1 ((μ.1 x1 1) + 1)
      some μ1
    else
      (f_X5_isParted N x1 x2 μ).bind fun r2 =>
      if ¬ r2.1 = 0 then
        f_X5_passOn_L62 N n x0 x1 (x2 + 1) r2.2
      else
        if zk_o x2 7 = true then none else
        if zk_o (25 + x2) 32 = true then none else
        let μ3 := zk_si r2.2 x1 (Int32.toNatClampNeg (25 + x2)) (r2.2.1 (x0 + 6) (Int32.toNatClampNeg x2))
        if zk_o (11 + x2) 32 = true then none else
        if zk_o (11 + x2) 32 = true then none else
        let j112 : Int32 → Option (ZM) := fun b4 =>
          if zk_o (11 + x2) 32 = true then none else
          let μ5 := zk_si μ3 x1 (Int32.toNatClampNeg (11 + x2)) ((μ3.1 x1 (Int32.toNatClampNeg (11 + x2))) + b4)
          if zk_o (18 + x2) 32 = true then none else
          if zk_o (18 + x2) 32 = true then none else
          let μ6 := zk_si μ5 x1 (Int32.toNatClampNeg (18 + x2)) ((μ5.1 x1 (Int32.toNatClampNeg (18 + x2))) + 1)
          if zk_o (25 + x2) 32 = true then none else
          let j146 : Unit → Option (ZM) := fun u7 =>
            let μ8 := zk_si μ6 x1 2 ((μ6.1 x1 2) ||| (1 <<< (x2 &&& 31)))
            if zk_o (25 + x2) 32 = true then none else
            let j182 : Int32 → Option (ZM) := fun b9 =>
              if zk_o (25 + x2) 32 = true then none else
              let μ10 := zk_si μ8 x1 (Int32.toNatClampNeg (25 + x2)) b9
              if zk_o (18 + x2) 32 = true then none else
              if (μ10.1 x1 (Int32.toNatClampNeg (18 + x2))) ≤ (99 : Int32) then
                if zk_o (18 + x2) 32 = true then none else
                if zk_o (18 + x2) 32 = true then none else
                let μ11 := zk_si μ10 x1 (Int32.toNatClampNeg (18 + x2)) (μ10.1 x1 (Int32.toNatClampNeg (18 + x2)))
                f_X5_passOn_L62 N n x0 x1 (x2 + 1) μ11
              else
                if zk_o (18 + x2) 32 = true then none else
                let μ12 := zk_si μ10 x1 (Int32.toNatClampNeg (18 + x2)) 99
                f_X5_passOn_L62 N n x0 x1 (x2 + 1) μ12
            if (μ8.1 x1 (Int32.toNatClampNeg (25 + x2))) ≤ (19 : Int32) then
              if zk_o (25 + x2) 32 = true then none else
              j182 (μ8.1 x1 (Int32.toNatClampNeg (25 + x2)))
            else
              j182 19
          if (19 : Int32) < (μ6.1 x1 (Int32.toNatClampNeg (25 + x2))) then
            j146 ()
          else
            if zk_o (18 + x2) 32 = true then none else
            if (μ6.1 x1 (Int32.toNatClampNeg (18 + x2))) ≤ (99 : Int32) then
              f_X5_passOn_L62 N n x0 x1 (x2 + 1) μ6
            else
              j146 ()
        if (99 : Int32) ≤ (μ3.1 x1 (Int32.toNatClampNeg (11 + x2))) then
          j112 0
        else
          j112 1
def k_X5_passOn_L62 (N n : Nat) : ZK (ZM) := fun L st μ => match L, st with
  | [some (.inr (.inr (5, x0))), some (.inr (.inr (1032, x1))), some (.inl x2), _], [] => f_X5_passOn_L62 N n x0 x1 x2 μ
  | _, _ => none
theorem k_X5_passOn_L62_i {N : Nat} {n : Nat} {L : ZL} {st : List ZV} {μ : ZM} {r : ZM} (h : k_X5_passOn_L62 N n L st μ = some r) : ∃ (x0 : Nat) (x1 : Nat) (x2 : Int32) (u3 : Option ZV), L = [some (.inr (.inr (5, x0))), some (.inr (.inr (1032, x1))), some (.inl x2), u3] ∧ st = [] ∧ f_X5_passOn_L62 N n x0 x1 x2 μ = some r := by
  unfold k_X5_passOn_L62 at h
  split at h
  · exact ⟨_, _, _, _, rfl, rfl, h⟩
  · cases h
set_option maxRecDepth 100000 in
theorem s_X5_passOn_L62 (N : Nat) {X : ZX} {E : ZE} (C : zk_X X E RX5 cX5_passOn 4 none ({ frames := 6, cells := 0, slots := 0, locals := 132 } : Room)) : ∀ n, zk_S X E 4 zq_V 62 (k_X5_passOn_L62 N n) := by
  intro n
  induction n with
  | zero =>
    intro H locs ls L st μ r h hL hst hW hS
    obtain ⟨x0, x1, x2, u3, rfl, rfl, h⟩ := k_X5_passOn_L62_i h
    exact nomatch (show none = some r from h)
  | succ n ih =>
    have h224 := zs_vret C dX5_passOn_224
    have h223 := zs_iast (n := 32) C dX5_passOn_223 (by decide) h224
    have h222 := zs_iadd C dX5_passOn_222 h223
    have h221 := zs_iconst (v := 1) C dX5_passOn_221 (by decide) h222
    have h220 := zs_iald (n := 32) C dX5_passOn_220 (by decide) h221
    have h219 := zs_dup2 C dX5_passOn_219 h220
    have h218 := zs_iconst (v := 1) C dX5_passOn_218 (by decide) h219
    have h217 := zs_aload_n (i := 1) C dX5_passOn_217 rfl h218
    have h214 := zs_goto (tgt := 62) C dX5_passOn_214 (by decide) ih
    have h211 := zs_iinc (n := 1) C dX5_passOn_211 (by decide) h214
    have h210 := zs_iast (n := 32) C dX5_passOn_210 (by decide) h211
    have h209 := zs_iald (n := 32) C dX5_passOn_209 (by decide) h210
    have h208 := zs_iadd C dX5_passOn_208 h209
    have h207 := zs_iload_n (i := 2) C dX5_passOn_207 rfl h208
    have h205 := zs_bipush (v := 18) C dX5_passOn_205 (by decide) h207
    have h204 := zs_aload_n (i := 1) C dX5_passOn_204 rfl h205
    have h201 := zs_goto (tgt := 210) C dX5_passOn_201 (by decide) h210
    have h199 := zs_bipush (v := 99) C dX5_passOn_199 (by decide) h201
    have h196 := zs_icmp_le (tgt := 204) C dX5_passOn_196 (by decide) h204 h199
    have h194 := zs_bipush (v := 99) C dX5_passOn_194 (by decide) h196
    have h193 := zs_iald (n := 32) C dX5_passOn_193 (by decide) h194
    have h192 := zs_iadd C dX5_passOn_192 h193
    have h191 := zs_iload_n (i := 2) C dX5_passOn_191 rfl h192
    have h189 := zs_bipush (v := 18) C dX5_passOn_189 (by decide) h191
    have h188 := zs_aload_n (i := 1) C dX5_passOn_188 rfl h189
    have h187 := zs_iadd C dX5_passOn_187 h188
    have h186 := zs_iload_n (i := 2) C dX5_passOn_186 rfl h187
    have h184 := zs_bipush (v := 18) C dX5_passOn_184 (by decide) h186
    have h183 := zs_aload_n (i := 1) C dX5_passOn_183 rfl h184
    have h182 := zs_iast (n := 32) C dX5_passOn_182 (by decide) h183
    have h181 := zs_iald (n := 32) C dX5_passOn_181 (by decide) h182
    have h180 := zs_iadd C dX5_passOn_180 h181
    have h179 := zs_iload_n (i := 2) C dX5_passOn_179 rfl h180
    have h177 := zs_bipush (v := 25) C dX5_passOn_177 (by decide) h179
    have h176 := zs_aload_n (i := 1) C dX5_passOn_176 rfl h177
    have h173 := zs_goto (tgt := 182) C dX5_passOn_173 (by decide) h182
    have h171 := zs_bipush (v := 19) C dX5_passOn_171 (by decide) h173
    have h168 := zs_icmp_le (tgt := 176) C dX5_passOn_168 (by decide) h176 h171
    have h166 := zs_bipush (v := 19) C dX5_passOn_166 (by decide) h168
    have h165 := zs_iald (n := 32) C dX5_passOn_165 (by decide) h166
    have h164 := zs_iadd C dX5_passOn_164 h165
    have h163 := zs_iload_n (i := 2) C dX5_passOn_163 rfl h164
    have h161 := zs_bipush (v := 25) C dX5_passOn_161 (by decide) h163
    have h160 := zs_aload_n (i := 1) C dX5_passOn_160 rfl h161
    have h159 := zs_iadd C dX5_passOn_159 h160
    have h158 := zs_iload_n (i := 2) C dX5_passOn_158 rfl h159
    have h156 := zs_bipush (v := 25) C dX5_passOn_156 (by decide) h158
    have h155 := zs_aload_n (i := 1) C dX5_passOn_155 rfl h156
    have h154 := zs_iast (n := 32) C dX5_passOn_154 (by decide) h155
    have h153 := zs_ior C dX5_passOn_153 h154
    have h152 := zs_ishl C dX5_passOn_152 h153
    have h151 := zs_iload_n (i := 2) C dX5_passOn_151 rfl h152
    have h150 := zs_iconst (v := 1) C dX5_passOn_150 (by decide) h151
    have h149 := zs_iald (n := 32) C dX5_passOn_149 (by decide) h150
    have h148 := zs_dup2 C dX5_passOn_148 h149
    have h147 := zs_iconst (v := 2) C dX5_passOn_147 (by decide) h148
    have h146 := zs_aload_n (i := 1) C dX5_passOn_146 rfl h147
    have h143 := zs_icmp_le (tgt := 211) C dX5_passOn_143 (by decide) h211 h146
    have h141 := zs_bipush (v := 99) C dX5_passOn_141 (by decide) h143
    have h140 := zs_iald (n := 32) C dX5_passOn_140 (by decide) h141
    have h139 := zs_iadd C dX5_passOn_139 h140
    have h138 := zs_iload_n (i := 2) C dX5_passOn_138 rfl h139
    have h136 := zs_bipush (v := 18) C dX5_passOn_136 (by decide) h138
    have h135 := zs_aload_n (i := 1) C dX5_passOn_135 rfl h136
    have h132 := zs_icmp_gt (tgt := 146) C dX5_passOn_132 (by decide) h146 h135
    have h130 := zs_bipush (v := 19) C dX5_passOn_130 (by decide) h132
    have h129 := zs_iald (n := 32) C dX5_passOn_129 (by decide) h130
    have h128 := zs_iadd C dX5_passOn_128 h129
    have h127 := zs_iload_n (i := 2) C dX5_passOn_127 rfl h128
    have h125 := zs_bipush (v := 25) C dX5_passOn_125 (by decide) h127
    have h124 := zs_aload_n (i := 1) C dX5_passOn_124 rfl h125
    have h123 := zs_iast (n := 32) C dX5_passOn_123 (by decide) h124
    have h122 := zs_iadd C dX5_passOn_122 h123
    have h121 := zs_iconst (v := 1) C dX5_passOn_121 (by decide) h122
    have h120 := zs_iald (n := 32) C dX5_passOn_120 (by decide) h121
    have h119 := zs_dup2 C dX5_passOn_119 h120
    have h118 := zs_iadd C dX5_passOn_118 h119
    have h117 := zs_iload_n (i := 2) C dX5_passOn_117 rfl h118
    have h115 := zs_bipush (v := 18) C dX5_passOn_115 (by decide) h117
    have h114 := zs_aload_n (i := 1) C dX5_passOn_114 rfl h115
    have h113 := zs_iast (n := 32) C dX5_passOn_113 (by decide) h114
    have h112 := zs_iadd C dX5_passOn_112 h113
    have h111 := zs_iconst (v := 0) C dX5_passOn_111 (by decide) h112
    have h108 := zs_goto (tgt := 112) C dX5_passOn_108 (by decide) h112
    have h107 := zs_iconst (v := 1) C dX5_passOn_107 (by decide) h108
    have h104 := zs_icmp_ge (tgt := 111) C dX5_passOn_104 (by decide) h111 h107
    have h102 := zs_bipush (v := 99) C dX5_passOn_102 (by decide) h104
    have h101 := zs_iald (n := 32) C dX5_passOn_101 (by decide) h102
    have h100 := zs_iadd C dX5_passOn_100 h101
    have h99 := zs_iload_n (i := 2) C dX5_passOn_99 rfl h100
    have h97 := zs_bipush (v := 11) C dX5_passOn_97 (by decide) h99
    have h96 := zs_aload_n (i := 1) C dX5_passOn_96 rfl h97
    have h95 := zs_iald (n := 32) C dX5_passOn_95 (by decide) h96
    have h94 := zs_dup2 C dX5_passOn_94 h95
    have h93 := zs_iadd C dX5_passOn_93 h94
    have h92 := zs_iload_n (i := 2) C dX5_passOn_92 rfl h93
    have h90 := zs_bipush (v := 11) C dX5_passOn_90 (by decide) h92
    have h89 := zs_aload_n (i := 1) C dX5_passOn_89 rfl h90
    have h88 := zs_iast (n := 32) C dX5_passOn_88 (by decide) h89
    have h87 := zs_iald (n := 7) C dX5_passOn_87 (by decide) h88
    have h86 := zs_iload_n (i := 2) C dX5_passOn_86 rfl h87
    have h83 := zs_gR C dX5_passOn_83 zf_5_8 zw_551 h86
    have h82 := zs_aload_n (i := 0) C dX5_passOn_82 rfl h83
    have h81 := zs_iadd C dX5_passOn_81 h82
    have h80 := zs_iload_n (i := 2) C dX5_passOn_80 rfl h81
    have h78 := zs_bipush (v := 25) C dX5_passOn_78 (by decide) h80
    have h77 := zs_aload_n (i := 1) C dX5_passOn_77 rfl h78
    have h74 := zs_if_ne (tgt := 211) C dX5_passOn_74 (by decide) h211 h77
    have h71 := zs_sI C dX5_passOn_71 (m_X5_isParted N) zw_617 ⟨Nat.le_of_ble_eq_true rfl, Nat.le_of_ble_eq_true rfl⟩ h74
    have h70 := zs_iload_n (i := 2) C dX5_passOn_70 rfl h71
    have h69 := zs_aload_n (i := 1) C dX5_passOn_69 rfl h70
    have h66 := zs_icmp_ge (tgt := 217) C dX5_passOn_66 (by decide) h217 h69
    have h65 := zs_iald (n := 32) C dX5_passOn_65 (by decide) h66
    have h64 := zs_iconst (v := 0) C dX5_passOn_64 (by decide) h65
    have h63 := zs_aload_n (i := 1) C dX5_passOn_63 rfl h64
    have h62 := zs_iload_n (i := 2) C dX5_passOn_62 rfl h63
    intro H locs ls L st μ r h hL hst hW hS
    obtain ⟨x0, x1, x2, u3, rfl, rfl, h⟩ := k_X5_passOn_L62_i h
    exact h62 H locs ls [some (.inr (.inr (5, x0))), some (.inr (.inr (1032, x1))), some (.inl x2), none] [] μ r h (hL.less ⟨rfl, rfl, rfl, trivial⟩) hst hW hS
def f_X5_passOn_L2 (N : Nat) : Nat → Nat → Nat → Int32 → ZM → Option (ZM)
  | 0, _, _, _, _ => none
  | n + 1, x0, x1, x2, μ =>
    if (μ.1 x1 0) ≤ x2 then
      f_X5_passOn_L62 N N x0 x1 0 μ
    else
      (f_X5_isParted N x1 x2 μ).bind fun r1 =>
      let j38 : Int32 → ZM → Option (ZM) := fun b2 μ3 =>
        if 0 ≤ b2 then
          if zk_o x2 7 = true then none else
          let μ4 := zk_si μ3 (x0 + 6) (Int32.toNatClampNeg x2) b2
          f_X5_passOn_L2 N n x0 x1 (x2 + 1) μ4
        else
          if zk_o x2 7 = true then none else
          let μ5 := zk_si μ3 (x0 + 6) (Int32.toNatClampNeg x2) 0
          f_X5_passOn_L2 N n x0 x1 (x2 + 1) μ5
      if r1.1 = 0 then
        if zk_o (25 + x2) 32 = true then none else
        (f_X5_worseBy N x1 x2 r1.2).bind fun r6 =>
        j38 ((r1.2.1 x1 (Int32.toNatClampNeg (25 + x2))) + r6.1) r6.2
      else
        if zk_o (25 + x2) 32 = true then none else
        j38 (r1.2.1 x1 (Int32.toNatClampNeg (25 + x2))) r1.2
def k_X5_passOn_L2 (N n : Nat) : ZK (ZM) := fun L st μ => match L, st with
  | [some (.inr (.inr (5, x0))), some (.inr (.inr (1032, x1))), some (.inl x2), _], [] => f_X5_passOn_L2 N n x0 x1 x2 μ
  | _, _ => none
theorem k_X5_passOn_L2_i {N : Nat} {n : Nat} {L : ZL} {st : List ZV} {μ : ZM} {r : ZM} (h : k_X5_passOn_L2 N n L st μ = some r) : ∃ (x0 : Nat) (x1 : Nat) (x2 : Int32) (u3 : Option ZV), L = [some (.inr (.inr (5, x0))), some (.inr (.inr (1032, x1))), some (.inl x2), u3] ∧ st = [] ∧ f_X5_passOn_L2 N n x0 x1 x2 μ = some r := by
  unfold k_X5_passOn_L2 at h
  split at h
  · exact ⟨_, _, _, _, rfl, rfl, h⟩
  · cases h
set_option maxRecDepth 100000 in
theorem s_X5_passOn_L2 (N : Nat) {X : ZX} {E : ZE} (C : zk_X X E RX5 cX5_passOn 4 none ({ frames := 6, cells := 0, slots := 0, locals := 132 } : Room)) : ∀ n, zk_S X E 4 zq_V 2 (k_X5_passOn_L2 N n) := by
  intro n
  induction n with
  | zero =>
    intro H locs ls L st μ r h hL hst hW hS
    obtain ⟨x0, x1, x2, u3, rfl, rfl, h⟩ := k_X5_passOn_L2_i h
    exact nomatch (show none = some r from h)
  | succ n ih =>
    have e62 := s_X5_passOn_L62 N C N
    have h61 := zs_istore_n (i := 2) C dX5_passOn_61 rfl e62
    have h60 := zs_iconst (v := 0) C dX5_passOn_60 (by decide) h61
    have h57 := zs_goto (tgt := 2) C dX5_passOn_57 (by decide) ih
    have h54 := zs_iinc (n := 1) C dX5_passOn_54 (by decide) h57
    have h53 := zs_iast (n := 7) C dX5_passOn_53 (by decide) h54
    have h52 := zs_iload_n (i := 3) C dX5_passOn_52 rfl h53
    have h49 := zs_goto (tgt := 53) C dX5_passOn_49 (by decide) h53
    have h48 := zs_iconst (v := 0) C dX5_passOn_48 (by decide) h49
    have h45 := zs_if_ge (tgt := 52) C dX5_passOn_45 (by decide) h52 h48
    have h44 := zs_iload_n (i := 3) C dX5_passOn_44 rfl h45
    have h43 := zs_iload_n (i := 2) C dX5_passOn_43 rfl h44
    have h40 := zs_gR C dX5_passOn_40 zf_5_8 zw_551 h43
    have h39 := zs_aload_n (i := 0) C dX5_passOn_39 rfl h40
    have h38 := zs_istore_n (i := 3) C dX5_passOn_38 rfl h39
    have h37 := zs_iadd C dX5_passOn_37 h38
    have h34 := zs_sI C dX5_passOn_34 (m_X5_worseBy N) zw_623 ⟨Nat.le_of_ble_eq_true rfl, Nat.le_of_ble_eq_true rfl⟩ h37
    have h33 := zs_iload_n (i := 2) C dX5_passOn_33 rfl h34
    have h32 := zs_aload_n (i := 1) C dX5_passOn_32 rfl h33
    have h31 := zs_iald (n := 32) C dX5_passOn_31 (by decide) h32
    have h30 := zs_iadd C dX5_passOn_30 h31
    have h29 := zs_iload_n (i := 2) C dX5_passOn_29 rfl h30
    have h27 := zs_bipush (v := 25) C dX5_passOn_27 (by decide) h29
    have h26 := zs_aload_n (i := 1) C dX5_passOn_26 rfl h27
    have h23 := zs_goto (tgt := 38) C dX5_passOn_23 (by decide) h38
    have h22 := zs_iald (n := 32) C dX5_passOn_22 (by decide) h23
    have h21 := zs_iadd C dX5_passOn_21 h22
    have h20 := zs_iload_n (i := 2) C dX5_passOn_20 rfl h21
    have h18 := zs_bipush (v := 25) C dX5_passOn_18 (by decide) h20
    have h17 := zs_aload_n (i := 1) C dX5_passOn_17 rfl h18
    have h14 := zs_if_eq (tgt := 26) C dX5_passOn_14 (by decide) h26 h17
    have h11 := zs_sI C dX5_passOn_11 (m_X5_isParted N) zw_617 ⟨Nat.le_of_ble_eq_true rfl, Nat.le_of_ble_eq_true rfl⟩ h14
    have h10 := zs_iload_n (i := 2) C dX5_passOn_10 rfl h11
    have h9 := zs_aload_n (i := 1) C dX5_passOn_9 rfl h10
    have h6 := zs_icmp_ge (tgt := 60) C dX5_passOn_6 (by decide) h60 h9
    have h5 := zs_iald (n := 32) C dX5_passOn_5 (by decide) h6
    have h4 := zs_iconst (v := 0) C dX5_passOn_4 (by decide) h5
    have h3 := zs_aload_n (i := 1) C dX5_passOn_3 rfl h4
    have h2 := zs_iload_n (i := 2) C dX5_passOn_2 rfl h3
    intro H locs ls L st μ r h hL hst hW hS
    obtain ⟨x0, x1, x2, u3, rfl, rfl, h⟩ := k_X5_passOn_L2_i h
    exact h2 H locs ls [some (.inr (.inr (5, x0))), some (.inr (.inr (1032, x1))), some (.inl x2), none] [] μ r h (hL.less ⟨rfl, rfl, rfl, trivial⟩) hst hW hS
def f_X5_passOn (N : Nat) (x0 : Nat) (x1 : Nat) (μ : ZM) : Option (ZM) :=
  f_X5_passOn_L2 N N x0 x1 0 μ
def g_X5_passOn (N : Nat) (as : List ZV) (μ : ZM) : Option (ZM) := match as with
  | [.inr (.inr (5, x0)), .inr (.inr (1032, x1))] => f_X5_passOn N x0 x1 μ
  | _ => none
theorem g_X5_passOn_i {N : Nat} {as : List ZV} {μ : ZM} {r : ZM} (h : g_X5_passOn N as μ = some r) : ∃ (x0 : Nat) (x1 : Nat), as = [.inr (.inr (5, x0)), .inr (.inr (1032, x1))] ∧ f_X5_passOn N x0 x1 μ = some r := by
  unfold g_X5_passOn at h
  split at h
  · exact ⟨_, _, rfl, h⟩
  · cases h
set_option maxRecDepth 100000 in
theorem c_X5_passOn (N : Nat) : zk_C yX5_passOn cX5_passOn 4 none ({ frames := 6, cells := 0, slots := 0, locals := 132 } : Room) zq_V (g_X5_passOn N) := by
  refine zk_met ?κ (by decide +kernel) ?hG ?body
  case body =>
    intro X E C
    have C : zk_X X E RX5 cX5_passOn 4 none ({ frames := 6, cells := 0, slots := 0, locals := 132 } : Room) := C
    have e2 := s_X5_passOn_L2 N C N
    have h1 := zs_istore_n (i := 2) C dX5_passOn_1 rfl e2
    have h0 := zs_iconst (v := 0) C dX5_passOn_0 (by decide) h1
    exact h0
  case hG =>
    intro as μ r h
    obtain ⟨x0, x1, rfl, h⟩ := g_X5_passOn_i h
    exact ⟨Nat.le_of_ble_eq_true rfl, h⟩
theorem m_X5_passOn (N : Nat) : zk_MV yX5_passOn cX5_passOn 4 none ({ frames := 6, cells := 0, slots := 0, locals := 132 } : Room) zq_V (g_X5_passOn N) 1 5 := ⟨c_X5_passOn N, zw_681, zw_680, zw_20, zw_31, rfl, rfl, by decide +kernel, by decide, ⟨TX5, 18, rfl⟩, fun as μ r h => by obtain ⟨x0, x1, rfl, -⟩ := g_X5_passOn_i h; exact ⟨_, _, rfl⟩⟩
-- LongestWedModel.years(I)I
def f_X5_years_L31 (N : Nat) : Nat → Nat → Int32 → Int32 → ZM → Option (Int32 × ZM)
  | 0, _, _, _, _ => none
  | n + 1, x0, x1, x2, μ =>
    if x1 ≤ x2 then
      (f_X5_keysOf N (x0 + 1) μ).bind fun r1 =>
      some (r1.1, r1.2)
    else
      (f_X5_know N x0 μ).bind fun r2 =>
      (f_X5_passOn N x0 (x0 + 1) r2).bind fun r3 =>
      f_X5_years_L31 N n x0 x1 (x2 + 1) r3
def k_X5_years_L31 (N n : Nat) : ZK (Int32 × ZM) := fun L st μ => match L, st with
  | [some (.inr (.inr (5, x0))), some (.inl x1), some (.inl x2)], [] => f_X5_years_L31 N n x0 x1 x2 μ
  | _, _ => none
theorem k_X5_years_L31_i {N : Nat} {n : Nat} {L : ZL} {st : List ZV} {μ : ZM} {r : Int32 × ZM} (h : k_X5_years_L31 N n L st μ = some r) : ∃ (x0 : Nat) (x1 : Int32) (x2 : Int32), L = [some (.inr (.inr (5, x0))), some (.inl x1), some (.inl x2)] ∧ st = [] ∧ f_X5_years_L31 N n x0 x1 x2 μ = some r := by
  unfold k_X5_years_L31 at h
  split at h
  · exact ⟨_, _, _, rfl, rfl, h⟩
  · cases h
set_option maxRecDepth 100000 in
theorem s_X5_years_L31 (N : Nat) {X : ZX} {E : ZE} (C : zk_X X E RX5 cX5_years 3 (some .int) ({ frames := 7, cells := 0, slots := 0, locals := 155 } : Room)) : ∀ n, zk_S X E 3 zq_I 31 (k_X5_years_L31 N n) := by
  intro n
  induction n with
  | zero =>
    intro H locs ls L st μ r h hL hst hW hS
    obtain ⟨x0, x1, x2, rfl, rfl, h⟩ := k_X5_years_L31_i h
    exact nomatch (show none = some r from h)
  | succ n ih =>
    have h61 := zs_iret C dX5_years_61
    have h58 := zs_sI C dX5_years_58 (m_X5_keysOf N) zw_626 ⟨Nat.le_of_ble_eq_true rfl, Nat.le_of_ble_eq_true rfl⟩ h61
    have h55 := zs_gR C dX5_years_55 zf_5_0 zw_543 h58
    have h54 := zs_aload_n (i := 0) C dX5_years_54 rfl h55
    have h51 := zs_goto (tgt := 31) C dX5_years_51 (by decide) ih
    have h48 := zs_iinc (n := 1) C dX5_years_48 (by decide) h51
    have h45 := zs_vV C dX5_years_45 (m_X5_passOn N) zw_678 ⟨Nat.le_of_ble_eq_true rfl, Nat.le_of_ble_eq_true rfl⟩ h48
    have h42 := zs_gR C dX5_years_42 zf_5_0 zw_543 h45
    have h41 := zs_aload_n (i := 0) C dX5_years_41 rfl h42
    have h40 := zs_aload_n (i := 0) C dX5_years_40 rfl h41
    have h37 := zs_vV C dX5_years_37 (m_X5_know N) zw_674 ⟨Nat.le_of_ble_eq_true rfl, Nat.le_of_ble_eq_true rfl⟩ h40
    have h36 := zs_aload_n (i := 0) C dX5_years_36 rfl h37
    have h33 := zs_icmp_ge (tgt := 54) C dX5_years_33 (by decide) h54 h36
    have h32 := zs_iload_n (i := 1) C dX5_years_32 rfl h33
    have h31 := zs_iload_n (i := 2) C dX5_years_31 rfl h32
    intro H locs ls L st μ r h hL hst hW hS
    obtain ⟨x0, x1, x2, rfl, rfl, h⟩ := k_X5_years_L31_i h
    exact h31 H locs ls [some (.inr (.inr (5, x0))), some (.inl x1), some (.inl x2)] [] μ r h (hL.less ⟨rfl, rfl, rfl, trivial⟩) hst hW hS
def f_X5_years (N : Nat) (x0 : Nat) (x1 : Int32) (μ : ZM) : Option (Int32 × ZM) :=
  (f_X5_in N x1 1 40 μ).bind fun r1 =>
  if ¬ r1.1 = 0 then
    if ((r1.2.1 (x0 + 1) 1) + x1) ≤ (9999 : Int32) then
      f_X5_years_L31 N N x0 x1 0 r1.2
    else
      some ((-3), r1.2)
  else
    some ((-1), r1.2)
def g_X5_years (N : Nat) (as : List ZV) (μ : ZM) : Option (Int32 × ZM) := match as with
  | [.inr (.inr (5, x0)), .inl x1] => f_X5_years N x0 x1 μ
  | _ => none
theorem g_X5_years_i {N : Nat} {as : List ZV} {μ : ZM} {r : Int32 × ZM} (h : g_X5_years N as μ = some r) : ∃ (x0 : Nat) (x1 : Int32), as = [.inr (.inr (5, x0)), .inl x1] ∧ f_X5_years N x0 x1 μ = some r := by
  unfold g_X5_years at h
  split at h
  · exact ⟨_, _, rfl, h⟩
  · cases h
set_option maxRecDepth 100000 in
theorem c_X5_years (N : Nat) : zk_C yX5_years cX5_years 3 (some .int) ({ frames := 7, cells := 0, slots := 0, locals := 155 } : Room) zq_I (g_X5_years N) := by
  refine zk_met ?κ (by decide +kernel) ?hG ?body
  case body =>
    intro X E C
    have C : zk_X X E RX5 cX5_years 3 (some .int) ({ frames := 7, cells := 0, slots := 0, locals := 155 } : Room) := C
    have e31 := s_X5_years_L31 N C N
    have h30 := zs_istore_n (i := 2) C dX5_years_30 rfl e31
    have h29 := zs_iconst (v := 0) C dX5_years_29 (by decide) h30
    have h28 := zs_iret C dX5_years_28
    have h26 := zs_bipush (v := (-3)) C dX5_years_26 (by decide) h28
    have h23 := zs_icmp_le (tgt := 29) C dX5_years_23 (by decide) h29 h26
    have h20 := zs_sipush (v := 9999) C dX5_years_20 (by decide) h23
    have h19 := zs_iadd C dX5_years_19 h20
    have h18 := zs_iload_n (i := 1) C dX5_years_18 rfl h19
    have h17 := zs_iald (n := 32) C dX5_years_17 (by decide) h18
    have h16 := zs_iconst (v := 1) C dX5_years_16 (by decide) h17
    have h13 := zs_gR C dX5_years_13 zf_5_0 zw_543 h16
    have h12 := zs_aload_n (i := 0) C dX5_years_12 rfl h13
    have h11 := zs_iret C dX5_years_11
    have h10 := zs_iconst (v := (-1)) C dX5_years_10 (by decide) h11
    have h7 := zs_if_ne (tgt := 12) C dX5_years_7 (by decide) h12 h10
    have h4 := zs_sI C dX5_years_4 (m_X5_in N) zw_603 ⟨Nat.le_of_ble_eq_true rfl, Nat.le_of_ble_eq_true rfl⟩ h7
    have h2 := zs_bipush (v := 40) C dX5_years_2 (by decide) h4
    have h1 := zs_iconst (v := 1) C dX5_years_1 (by decide) h2
    have h0 := zs_iload_n (i := 1) C dX5_years_0 rfl h1
    exact h0
  case hG =>
    intro as μ r h
    obtain ⟨x0, x1, rfl, h⟩ := g_X5_years_i h
    exact ⟨Nat.le_of_ble_eq_true rfl, h⟩
theorem m_X5_years (N : Nat) : zk_MV yX5_years cX5_years 3 (some .int) ({ frames := 7, cells := 0, slots := 0, locals := 155 } : Room) zq_I (g_X5_years N) 1 5 := ⟨c_X5_years N, zw_673, zw_671, zw_672, zw_31, rfl, rfl, by decide +kernel, by decide, ⟨TX5, 18, rfl⟩, fun as μ r h => by obtain ⟨x0, x1, rfl, -⟩ := g_X5_years_i h; exact ⟨_, _, rfl⟩⟩
-- LongestWedModel.nurseOn([III)V
def f_X5_nurseOn (N : Nat) (x0 : Nat) (x1 : Int32) (x2 : Int32) (μ : ZM) : Option (ZM) :=
  if zk_o (25 + x1) 32 = true then none else
  if (μ.1 x0 (Int32.toNatClampNeg (25 + x1))) ≤ x2 then
    if zk_o (25 + x1) 32 = true then none else
    let μ1 := zk_si μ x0 (Int32.toNatClampNeg (25 + x1)) 0
    some μ1
  else
    if zk_o (25 + x1) 32 = true then none else
    if zk_o (25 + x1) 32 = true then none else
    let μ2 := zk_si μ x0 (Int32.toNatClampNeg (25 + x1)) ((μ.1 x0 (Int32.toNatClampNeg (25 + x1))) - x2)
    some μ2
def g_X5_nurseOn (N : Nat) (as : List ZV) (μ : ZM) : Option (ZM) := match as with
  | [.inr (.inr (1032, x0)), .inl x1, .inl x2] => f_X5_nurseOn N x0 x1 x2 μ
  | _ => none
theorem g_X5_nurseOn_i {N : Nat} {as : List ZV} {μ : ZM} {r : ZM} (h : g_X5_nurseOn N as μ = some r) : ∃ (x0 : Nat) (x1 : Int32) (x2 : Int32), as = [.inr (.inr (1032, x0)), .inl x1, .inl x2] ∧ f_X5_nurseOn N x0 x1 x2 μ = some r := by
  unfold g_X5_nurseOn at h
  split at h
  · exact ⟨_, _, _, rfl, h⟩
  · cases h
set_option maxRecDepth 100000 in
theorem c_X5_nurseOn (N : Nat) : zk_C yX5_nurseOn cX5_nurseOn 3 none ({ frames := 0, cells := 0, slots := 0, locals := 0 } : Room) zq_V (g_X5_nurseOn N) := by
  refine zk_met ?κ (by decide +kernel) ?hG ?body
  case body =>
    intro X E C
    have C : zk_X X E RX5 cX5_nurseOn 3 none ({ frames := 0, cells := 0, slots := 0, locals := 0 } : Room) := C
    have h28 := zs_vret C dX5_nurseOn_28
    have h27 := zs_iast (n := 32) C dX5_nurseOn_27 (by decide) h28
    have h26 := zs_iconst (v := 0) C dX5_nurseOn_26 (by decide) h27
    have h23 := zs_goto (tgt := 27) C dX5_nurseOn_23 (by decide) h27
    have h22 := zs_isub C dX5_nurseOn_22 h23
    have h21 := zs_iload_n (i := 2) C dX5_nurseOn_21 rfl h22
    have h20 := zs_iald (n := 32) C dX5_nurseOn_20 (by decide) h21
    have h19 := zs_iadd C dX5_nurseOn_19 h20
    have h18 := zs_iload_n (i := 1) C dX5_nurseOn_18 rfl h19
    have h16 := zs_bipush (v := 25) C dX5_nurseOn_16 (by decide) h18
    have h15 := zs_aload_n (i := 0) C dX5_nurseOn_15 rfl h16
    have h12 := zs_icmp_le (tgt := 26) C dX5_nurseOn_12 (by decide) h26 h15
    have h11 := zs_iload_n (i := 2) C dX5_nurseOn_11 rfl h12
    have h10 := zs_iald (n := 32) C dX5_nurseOn_10 (by decide) h11
    have h9 := zs_iadd C dX5_nurseOn_9 h10
    have h8 := zs_iload_n (i := 1) C dX5_nurseOn_8 rfl h9
    have h6 := zs_bipush (v := 25) C dX5_nurseOn_6 (by decide) h8
    have h5 := zs_aload_n (i := 0) C dX5_nurseOn_5 rfl h6
    have h4 := zs_iadd C dX5_nurseOn_4 h5
    have h3 := zs_iload_n (i := 1) C dX5_nurseOn_3 rfl h4
    have h1 := zs_bipush (v := 25) C dX5_nurseOn_1 (by decide) h3
    have h0 := zs_aload_n (i := 0) C dX5_nurseOn_0 rfl h1
    exact h0
  case hG =>
    intro as μ r h
    obtain ⟨x0, x1, x2, rfl, h⟩ := g_X5_nurseOn_i h
    exact ⟨Nat.le_of_ble_eq_true rfl, h⟩
theorem m_X5_nurseOn (N : Nat) : zk_MS yX5_nurseOn cX5_nurseOn 3 none ({ frames := 0, cells := 0, slots := 0, locals := 0 } : Room) zq_V (g_X5_nurseOn N) 3 := ⟨c_X5_nurseOn N, zw_688, zw_687, zw_31, rfl, rfl, by decide +kernel⟩
-- LongestWedModel.nurse(II)I
def f_X5_nurse (N : Nat) (x0 : Nat) (x1 : Int32) (x2 : Int32) (μ : ZM) : Option (Int32 × ZM) :=
  (f_X5_isCouple N x0 x1 μ).bind fun r1 =>
  if r1.1 = 0 then
    some ((-1), r1.2)
  else
    (f_X5_in N x2 1 19 r1.2).bind fun r2 =>
    if ¬ r2.1 = 0 then
      (f_X5_isParted N (x0 + 1) x1 r2.2).bind fun r3 =>
      if ¬ r3.1 = 0 then
        some ((-2), r3.2)
      else
        if zk_o (25 + x1) 32 = true then none else
        if ¬ (r3.2.1 (x0 + 1) (Int32.toNatClampNeg (25 + x1))) = 0 then
          (f_X5_know N x0 r3.2).bind fun r4 =>
          (f_X5_nurseOn N (x0 + 1) x1 x2 r4).bind fun r5 =>
          if zk_o (25 + x1) 32 = true then none else
          some ((r5.1 (x0 + 1) (Int32.toNatClampNeg (25 + x1))), r5)
        else
          some ((-2), r3.2)
    else
      some ((-1), r2.2)
def g_X5_nurse (N : Nat) (as : List ZV) (μ : ZM) : Option (Int32 × ZM) := match as with
  | [.inr (.inr (5, x0)), .inl x1, .inl x2] => f_X5_nurse N x0 x1 x2 μ
  | _ => none
theorem g_X5_nurse_i {N : Nat} {as : List ZV} {μ : ZM} {r : Int32 × ZM} (h : g_X5_nurse N as μ = some r) : ∃ (x0 : Nat) (x1 : Int32) (x2 : Int32), as = [.inr (.inr (5, x0)), .inl x1, .inl x2] ∧ f_X5_nurse N x0 x1 x2 μ = some r := by
  unfold g_X5_nurse at h
  split at h
  · exact ⟨_, _, _, rfl, h⟩
  · cases h
set_option maxRecDepth 100000 in
theorem c_X5_nurse (N : Nat) : zk_C yX5_nurse cX5_nurse 3 (some .int) ({ frames := 2, cells := 0, slots := 0, locals := 43 } : Room) zq_I (g_X5_nurse N) := by
  refine zk_met ?κ (by decide +kernel) ?hG ?body
  case body =>
    intro X E C
    have C : zk_X X E RX5 cX5_nurse 3 (some .int) ({ frames := 2, cells := 0, slots := 0, locals := 43 } : Room) := C
    have h68 := zs_iret C dX5_nurse_68
    have h67 := zs_iald (n := 32) C dX5_nurse_67 (by decide) h68
    have h66 := zs_iadd C dX5_nurse_66 h67
    have h65 := zs_iload_n (i := 1) C dX5_nurse_65 rfl h66
    have h63 := zs_bipush (v := 25) C dX5_nurse_63 (by decide) h65
    have h60 := zs_gR C dX5_nurse_60 zf_5_0 zw_543 h63
    have h59 := zs_aload_n (i := 0) C dX5_nurse_59 rfl h60
    have h56 := zs_sV C dX5_nurse_56 (m_X5_nurseOn N) zw_686 ⟨Nat.le_of_ble_eq_true rfl, Nat.le_of_ble_eq_true rfl⟩ h59
    have h55 := zs_iload_n (i := 2) C dX5_nurse_55 rfl h56
    have h54 := zs_iload_n (i := 1) C dX5_nurse_54 rfl h55
    have h51 := zs_gR C dX5_nurse_51 zf_5_0 zw_543 h54
    have h50 := zs_aload_n (i := 0) C dX5_nurse_50 rfl h51
    have h47 := zs_vV C dX5_nurse_47 (m_X5_know N) zw_674 ⟨Nat.le_of_ble_eq_true rfl, Nat.le_of_ble_eq_true rfl⟩ h50
    have h46 := zs_aload_n (i := 0) C dX5_nurse_46 rfl h47
    have h45 := zs_iret C dX5_nurse_45
    have h43 := zs_bipush (v := (-2)) C dX5_nurse_43 (by decide) h45
    have h40 := zs_if_ne (tgt := 46) C dX5_nurse_40 (by decide) h46 h43
    have h39 := zs_iald (n := 32) C dX5_nurse_39 (by decide) h40
    have h38 := zs_iadd C dX5_nurse_38 h39
    have h37 := zs_iload_n (i := 1) C dX5_nurse_37 rfl h38
    have h35 := zs_bipush (v := 25) C dX5_nurse_35 (by decide) h37
    have h32 := zs_gR C dX5_nurse_32 zf_5_0 zw_543 h35
    have h31 := zs_aload_n (i := 0) C dX5_nurse_31 rfl h32
    have h28 := zs_if_ne (tgt := 43) C dX5_nurse_28 (by decide) h43 h31
    have h25 := zs_sI C dX5_nurse_25 (m_X5_isParted N) zw_617 ⟨Nat.le_of_ble_eq_true rfl, Nat.le_of_ble_eq_true rfl⟩ h28
    have h24 := zs_iload_n (i := 1) C dX5_nurse_24 rfl h25
    have h21 := zs_gR C dX5_nurse_21 zf_5_0 zw_543 h24
    have h20 := zs_aload_n (i := 0) C dX5_nurse_20 rfl h21
    have h19 := zs_iret C dX5_nurse_19
    have h18 := zs_iconst (v := (-1)) C dX5_nurse_18 (by decide) h19
    have h15 := zs_if_ne (tgt := 20) C dX5_nurse_15 (by decide) h20 h18
    have h12 := zs_sI C dX5_nurse_12 (m_X5_in N) zw_603 ⟨Nat.le_of_ble_eq_true rfl, Nat.le_of_ble_eq_true rfl⟩ h15
    have h10 := zs_bipush (v := 19) C dX5_nurse_10 (by decide) h12
    have h9 := zs_iconst (v := 1) C dX5_nurse_9 (by decide) h10
    have h8 := zs_iload_n (i := 2) C dX5_nurse_8 rfl h9
    have h5 := zs_if_eq (tgt := 18) C dX5_nurse_5 (by decide) h18 h8
    have h2 := zs_vI C dX5_nurse_2 (m_X5_isCouple N) zw_613 ⟨Nat.le_of_ble_eq_true rfl, Nat.le_of_ble_eq_true rfl⟩ h5
    have h1 := zs_iload_n (i := 1) C dX5_nurse_1 rfl h2
    have h0 := zs_aload_n (i := 0) C dX5_nurse_0 rfl h1
    exact h0
  case hG =>
    intro as μ r h
    obtain ⟨x0, x1, x2, rfl, h⟩ := g_X5_nurse_i h
    exact ⟨Nat.le_of_ble_eq_true rfl, h⟩
theorem m_X5_nurse (N : Nat) : zk_MV yX5_nurse cX5_nurse 3 (some .int) ({ frames := 2, cells := 0, slots := 0, locals := 43 } : Room) zq_I (g_X5_nurse N) 2 5 := ⟨c_X5_nurse N, zw_685, zw_683, zw_684, zw_31, rfl, rfl, by decide +kernel, by decide, ⟨TX5, 18, rfl⟩, fun as μ r h => by obtain ⟨x0, x1, x2, rfl, -⟩ := g_X5_nurse_i h; exact ⟨_, _, rfl⟩⟩
-- LongestWedModel.stirOn([III)V
def f_X5_stirOn (N : Nat) (x0 : Nat) (x1 : Int32) (x2 : Int32) (μ : ZM) : Option (ZM) :=
  if zk_o (25 + x1) 32 = true then none else
  if zk_o (25 + x1) 32 = true then none else
  let μ1 := zk_si μ x0 (Int32.toNatClampNeg (25 + x1)) ((μ.1 x0 (Int32.toNatClampNeg (25 + x1))) + x2)
  if zk_o (25 + x1) 32 = true then none else
  if (μ1.1 x0 (Int32.toNatClampNeg (25 + x1))) ≤ (19 : Int32) then
    some μ1
  else
    if zk_o (25 + x1) 32 = true then none else
    let μ2 := zk_si μ1 x0 (Int32.toNatClampNeg (25 + x1)) 19
    let μ3 := zk_si μ2 x0 2 ((μ2.1 x0 2) ||| (1 <<< (x1 &&& 31)))
    some μ3
def g_X5_stirOn (N : Nat) (as : List ZV) (μ : ZM) : Option (ZM) := match as with
  | [.inr (.inr (1032, x0)), .inl x1, .inl x2] => f_X5_stirOn N x0 x1 x2 μ
  | _ => none
theorem g_X5_stirOn_i {N : Nat} {as : List ZV} {μ : ZM} {r : ZM} (h : g_X5_stirOn N as μ = some r) : ∃ (x0 : Nat) (x1 : Int32) (x2 : Int32), as = [.inr (.inr (1032, x0)), .inl x1, .inl x2] ∧ f_X5_stirOn N x0 x1 x2 μ = some r := by
  unfold g_X5_stirOn at h
  split at h
  · exact ⟨_, _, _, rfl, h⟩
  · cases h
set_option maxRecDepth 100000 in
theorem c_X5_stirOn (N : Nat) : zk_C yX5_stirOn cX5_stirOn 3 none ({ frames := 0, cells := 0, slots := 0, locals := 0 } : Room) zq_V (g_X5_stirOn N) := by
  refine zk_met ?κ (by decide +kernel) ?hG ?body
  case body =>
    intro X E C
    have C : zk_X X E RX5 cX5_stirOn 3 none ({ frames := 0, cells := 0, slots := 0, locals := 0 } : Room) := C
    have h38 := zs_vret C dX5_stirOn_38
    have h37 := zs_iast (n := 32) C dX5_stirOn_37 (by decide) h38
    have h36 := zs_ior C dX5_stirOn_36 h37
    have h35 := zs_ishl C dX5_stirOn_35 h36
    have h34 := zs_iload_n (i := 1) C dX5_stirOn_34 rfl h35
    have h33 := zs_iconst (v := 1) C dX5_stirOn_33 (by decide) h34
    have h32 := zs_iald (n := 32) C dX5_stirOn_32 (by decide) h33
    have h31 := zs_dup2 C dX5_stirOn_31 h32
    have h30 := zs_iconst (v := 2) C dX5_stirOn_30 (by decide) h31
    have h29 := zs_aload_n (i := 0) C dX5_stirOn_29 rfl h30
    have h28 := zs_iast (n := 32) C dX5_stirOn_28 (by decide) h29
    have h26 := zs_bipush (v := 19) C dX5_stirOn_26 (by decide) h28
    have h25 := zs_iadd C dX5_stirOn_25 h26
    have h24 := zs_iload_n (i := 1) C dX5_stirOn_24 rfl h25
    have h22 := zs_bipush (v := 25) C dX5_stirOn_22 (by decide) h24
    have h21 := zs_aload_n (i := 0) C dX5_stirOn_21 rfl h22
    have h18 := zs_icmp_le (tgt := 38) C dX5_stirOn_18 (by decide) h38 h21
    have h16 := zs_bipush (v := 19) C dX5_stirOn_16 (by decide) h18
    have h15 := zs_iald (n := 32) C dX5_stirOn_15 (by decide) h16
    have h14 := zs_iadd C dX5_stirOn_14 h15
    have h13 := zs_iload_n (i := 1) C dX5_stirOn_13 rfl h14
    have h11 := zs_bipush (v := 25) C dX5_stirOn_11 (by decide) h13
    have h10 := zs_aload_n (i := 0) C dX5_stirOn_10 rfl h11
    have h9 := zs_iast (n := 32) C dX5_stirOn_9 (by decide) h10
    have h8 := zs_iadd C dX5_stirOn_8 h9
    have h7 := zs_iload_n (i := 2) C dX5_stirOn_7 rfl h8
    have h6 := zs_iald (n := 32) C dX5_stirOn_6 (by decide) h7
    have h5 := zs_dup2 C dX5_stirOn_5 h6
    have h4 := zs_iadd C dX5_stirOn_4 h5
    have h3 := zs_iload_n (i := 1) C dX5_stirOn_3 rfl h4
    have h1 := zs_bipush (v := 25) C dX5_stirOn_1 (by decide) h3
    have h0 := zs_aload_n (i := 0) C dX5_stirOn_0 rfl h1
    exact h0
  case hG =>
    intro as μ r h
    obtain ⟨x0, x1, x2, rfl, h⟩ := g_X5_stirOn_i h
    exact ⟨Nat.le_of_ble_eq_true rfl, h⟩
theorem m_X5_stirOn (N : Nat) : zk_MS yX5_stirOn cX5_stirOn 3 none ({ frames := 0, cells := 0, slots := 0, locals := 0 } : Room) zq_V (g_X5_stirOn N) 3 := ⟨c_X5_stirOn N, zw_695, zw_694, zw_31, rfl, rfl, by decide +kernel⟩
-- LongestWedModel.stir(II)I
def f_X5_stir (N : Nat) (x0 : Nat) (x1 : Int32) (x2 : Int32) (μ : ZM) : Option (Int32 × ZM) :=
  (f_X5_isCouple N x0 x1 μ).bind fun r1 =>
  if r1.1 = 0 then
    some ((-1), r1.2)
  else
    (f_X5_in N x2 1 20 r1.2).bind fun r2 =>
    if ¬ r2.1 = 0 then
      (f_X5_isParted N (x0 + 1) x1 r2.2).bind fun r3 =>
      if r3.1 = 0 then
        (f_X5_know N x0 r3.2).bind fun r4 =>
        (f_X5_stirOn N (x0 + 1) x1 x2 r4).bind fun r5 =>
        if zk_o (25 + x1) 32 = true then none else
        some ((r5.1 (x0 + 1) (Int32.toNatClampNeg (25 + x1))), r5)
      else
        some ((-2), r3.2)
    else
      some ((-1), r2.2)
def g_X5_stir (N : Nat) (as : List ZV) (μ : ZM) : Option (Int32 × ZM) := match as with
  | [.inr (.inr (5, x0)), .inl x1, .inl x2] => f_X5_stir N x0 x1 x2 μ
  | _ => none
theorem g_X5_stir_i {N : Nat} {as : List ZV} {μ : ZM} {r : Int32 × ZM} (h : g_X5_stir N as μ = some r) : ∃ (x0 : Nat) (x1 : Int32) (x2 : Int32), as = [.inr (.inr (5, x0)), .inl x1, .inl x2] ∧ f_X5_stir N x0 x1 x2 μ = some r := by
  unfold g_X5_stir at h
  split at h
  · exact ⟨_, _, _, rfl, h⟩
  · cases h
set_option maxRecDepth 100000 in
theorem c_X5_stir (N : Nat) : zk_C yX5_stir cX5_stir 3 (some .int) ({ frames := 2, cells := 0, slots := 0, locals := 43 } : Room) zq_I (g_X5_stir N) := by
  refine zk_met ?κ (by decide +kernel) ?hG ?body
  case body =>
    intro X E C
    have C : zk_X X E RX5 cX5_stir 3 (some .int) ({ frames := 2, cells := 0, slots := 0, locals := 43 } : Room) := C
    have h56 := zs_iret C dX5_stir_56
    have h55 := zs_iald (n := 32) C dX5_stir_55 (by decide) h56
    have h54 := zs_iadd C dX5_stir_54 h55
    have h53 := zs_iload_n (i := 1) C dX5_stir_53 rfl h54
    have h51 := zs_bipush (v := 25) C dX5_stir_51 (by decide) h53
    have h48 := zs_gR C dX5_stir_48 zf_5_0 zw_543 h51
    have h47 := zs_aload_n (i := 0) C dX5_stir_47 rfl h48
    have h44 := zs_sV C dX5_stir_44 (m_X5_stirOn N) zw_693 ⟨Nat.le_of_ble_eq_true rfl, Nat.le_of_ble_eq_true rfl⟩ h47
    have h43 := zs_iload_n (i := 2) C dX5_stir_43 rfl h44
    have h42 := zs_iload_n (i := 1) C dX5_stir_42 rfl h43
    have h39 := zs_gR C dX5_stir_39 zf_5_0 zw_543 h42
    have h38 := zs_aload_n (i := 0) C dX5_stir_38 rfl h39
    have h35 := zs_vV C dX5_stir_35 (m_X5_know N) zw_674 ⟨Nat.le_of_ble_eq_true rfl, Nat.le_of_ble_eq_true rfl⟩ h38
    have h34 := zs_aload_n (i := 0) C dX5_stir_34 rfl h35
    have h33 := zs_iret C dX5_stir_33
    have h31 := zs_bipush (v := (-2)) C dX5_stir_31 (by decide) h33
    have h28 := zs_if_eq (tgt := 34) C dX5_stir_28 (by decide) h34 h31
    have h25 := zs_sI C dX5_stir_25 (m_X5_isParted N) zw_617 ⟨Nat.le_of_ble_eq_true rfl, Nat.le_of_ble_eq_true rfl⟩ h28
    have h24 := zs_iload_n (i := 1) C dX5_stir_24 rfl h25
    have h21 := zs_gR C dX5_stir_21 zf_5_0 zw_543 h24
    have h20 := zs_aload_n (i := 0) C dX5_stir_20 rfl h21
    have h19 := zs_iret C dX5_stir_19
    have h18 := zs_iconst (v := (-1)) C dX5_stir_18 (by decide) h19
    have h15 := zs_if_ne (tgt := 20) C dX5_stir_15 (by decide) h20 h18
    have h12 := zs_sI C dX5_stir_12 (m_X5_in N) zw_603 ⟨Nat.le_of_ble_eq_true rfl, Nat.le_of_ble_eq_true rfl⟩ h15
    have h10 := zs_bipush (v := 20) C dX5_stir_10 (by decide) h12
    have h9 := zs_iconst (v := 1) C dX5_stir_9 (by decide) h10
    have h8 := zs_iload_n (i := 2) C dX5_stir_8 rfl h9
    have h5 := zs_if_eq (tgt := 18) C dX5_stir_5 (by decide) h18 h8
    have h2 := zs_vI C dX5_stir_2 (m_X5_isCouple N) zw_613 ⟨Nat.le_of_ble_eq_true rfl, Nat.le_of_ble_eq_true rfl⟩ h5
    have h1 := zs_iload_n (i := 1) C dX5_stir_1 rfl h2
    have h0 := zs_aload_n (i := 0) C dX5_stir_0 rfl h1
    exact h0
  case hG =>
    intro as μ r h
    obtain ⟨x0, x1, x2, rfl, h⟩ := g_X5_stir_i h
    exact ⟨Nat.le_of_ble_eq_true rfl, h⟩
theorem m_X5_stir (N : Nat) : zk_MV yX5_stir cX5_stir 3 (some .int) ({ frames := 2, cells := 0, slots := 0, locals := 43 } : Room) zq_I (g_X5_stir N) 2 5 := ⟨c_X5_stir N, zw_692, zw_690, zw_691, zw_31, rfl, rfl, by decide +kernel, by decide, ⟨TX5, 18, rfl⟩, fun as μ r h => by obtain ⟨x0, x1, x2, rfl, -⟩ := g_X5_stir_i h; exact ⟨_, _, rfl⟩⟩
-- LongestWedModel.wedOn([II)V
def f_X5_wedOn (N : Nat) (x0 : Nat) (x1 : Int32) (μ : ZM) : Option (ZM) :=
  let μ1 := zk_si μ x0 2 ((μ.1 x0 2) &&& ((1 <<< (x1 &&& 31)) ^^^ (-1)))
  if zk_o (11 + x1) 32 = true then none else
  let μ2 := zk_si μ1 x0 (Int32.toNatClampNeg (11 + x1)) 0
  if zk_o (18 + x1) 32 = true then none else
  let μ3 := zk_si μ2 x0 (Int32.toNatClampNeg (18 + x1)) 20
  if zk_o (25 + x1) 32 = true then none else
  let μ4 := zk_si μ3 x0 (Int32.toNatClampNeg (25 + x1)) 0
  some μ4
def g_X5_wedOn (N : Nat) (as : List ZV) (μ : ZM) : Option (ZM) := match as with
  | [.inr (.inr (1032, x0)), .inl x1] => f_X5_wedOn N x0 x1 μ
  | _ => none
theorem g_X5_wedOn_i {N : Nat} {as : List ZV} {μ : ZM} {r : ZM} (h : g_X5_wedOn N as μ = some r) : ∃ (x0 : Nat) (x1 : Int32), as = [.inr (.inr (1032, x0)), .inl x1] ∧ f_X5_wedOn N x0 x1 μ = some r := by
  unfold g_X5_wedOn at h
  split at h
  · exact ⟨_, _, rfl, h⟩
  · cases h
set_option maxRecDepth 100000 in
theorem c_X5_wedOn (N : Nat) : zk_C yX5_wedOn cX5_wedOn 2 none ({ frames := 0, cells := 0, slots := 0, locals := 0 } : Room) zq_V (g_X5_wedOn N) := by
  refine zk_met ?κ (by decide +kernel) ?hG ?body
  case body =>
    intro X E C
    have C : zk_X X E RX5 cX5_wedOn 2 none ({ frames := 0, cells := 0, slots := 0, locals := 0 } : Room) := C
    have h33 := zs_vret C dX5_wedOn_33
    have h32 := zs_iast (n := 32) C dX5_wedOn_32 (by decide) h33
    have h31 := zs_iconst (v := 0) C dX5_wedOn_31 (by decide) h32
    have h30 := zs_iadd C dX5_wedOn_30 h31
    have h29 := zs_iload_n (i := 1) C dX5_wedOn_29 rfl h30
    have h27 := zs_bipush (v := 25) C dX5_wedOn_27 (by decide) h29
    have h26 := zs_aload_n (i := 0) C dX5_wedOn_26 rfl h27
    have h25 := zs_iast (n := 32) C dX5_wedOn_25 (by decide) h26
    have h23 := zs_bipush (v := 20) C dX5_wedOn_23 (by decide) h25
    have h22 := zs_iadd C dX5_wedOn_22 h23
    have h21 := zs_iload_n (i := 1) C dX5_wedOn_21 rfl h22
    have h19 := zs_bipush (v := 18) C dX5_wedOn_19 (by decide) h21
    have h18 := zs_aload_n (i := 0) C dX5_wedOn_18 rfl h19
    have h17 := zs_iast (n := 32) C dX5_wedOn_17 (by decide) h18
    have h16 := zs_iconst (v := 0) C dX5_wedOn_16 (by decide) h17
    have h15 := zs_iadd C dX5_wedOn_15 h16
    have h14 := zs_iload_n (i := 1) C dX5_wedOn_14 rfl h15
    have h12 := zs_bipush (v := 11) C dX5_wedOn_12 (by decide) h14
    have h11 := zs_aload_n (i := 0) C dX5_wedOn_11 rfl h12
    have h10 := zs_iast (n := 32) C dX5_wedOn_10 (by decide) h11
    have h9 := zs_iand C dX5_wedOn_9 h10
    have h8 := zs_ixor C dX5_wedOn_8 h9
    have h7 := zs_iconst (v := (-1)) C dX5_wedOn_7 (by decide) h8
    have h6 := zs_ishl C dX5_wedOn_6 h7
    have h5 := zs_iload_n (i := 1) C dX5_wedOn_5 rfl h6
    have h4 := zs_iconst (v := 1) C dX5_wedOn_4 (by decide) h5
    have h3 := zs_iald (n := 32) C dX5_wedOn_3 (by decide) h4
    have h2 := zs_dup2 C dX5_wedOn_2 h3
    have h1 := zs_iconst (v := 2) C dX5_wedOn_1 (by decide) h2
    have h0 := zs_aload_n (i := 0) C dX5_wedOn_0 rfl h1
    exact h0
  case hG =>
    intro as μ r h
    obtain ⟨x0, x1, rfl, h⟩ := g_X5_wedOn_i h
    exact ⟨Nat.le_of_ble_eq_true rfl, h⟩
theorem m_X5_wedOn (N : Nat) : zk_MS yX5_wedOn cX5_wedOn 2 none ({ frames := 0, cells := 0, slots := 0, locals := 0 } : Room) zq_V (g_X5_wedOn N) 2 := ⟨c_X5_wedOn N, zw_702, zw_701, zw_31, rfl, rfl, by decide +kernel⟩
-- LongestWedModel.wed(I)I
def f_X5_wed (N : Nat) (x0 : Nat) (x1 : Int32) (μ : ZM) : Option (Int32 × ZM) :=
  (f_X5_isCouple N x0 x1 μ).bind fun r1 =>
  if ¬ r1.1 = 0 then
    (f_X5_isParted N (x0 + 1) x1 r1.2).bind fun r2 =>
    if ¬ r2.1 = 0 then
      (f_X5_know N x0 r2.2).bind fun r3 =>
      (f_X5_wedOn N (x0 + 1) x1 r3).bind fun r4 =>
      (f_X5_keysOf N (x0 + 1) r4).bind fun r5 =>
      some (r5.1, r5.2)
    else
      some ((-2), r2.2)
  else
    some ((-1), r1.2)
def g_X5_wed (N : Nat) (as : List ZV) (μ : ZM) : Option (Int32 × ZM) := match as with
  | [.inr (.inr (5, x0)), .inl x1] => f_X5_wed N x0 x1 μ
  | _ => none
theorem g_X5_wed_i {N : Nat} {as : List ZV} {μ : ZM} {r : Int32 × ZM} (h : g_X5_wed N as μ = some r) : ∃ (x0 : Nat) (x1 : Int32), as = [.inr (.inr (5, x0)), .inl x1] ∧ f_X5_wed N x0 x1 μ = some r := by
  unfold g_X5_wed at h
  split at h
  · exact ⟨_, _, rfl, h⟩
  · cases h
set_option maxRecDepth 100000 in
theorem c_X5_wed (N : Nat) : zk_C yX5_wed cX5_wed 2 (some .int) ({ frames := 4, cells := 0, slots := 0, locals := 86 } : Room) zq_I (g_X5_wed N) := by
  refine zk_met ?κ (by decide +kernel) ?hG ?body
  case body =>
    intro X E C
    have C : zk_X X E RX5 cX5_wed 2 (some .int) ({ frames := 4, cells := 0, slots := 0, locals := 86 } : Room) := C
    have h43 := zs_iret C dX5_wed_43
    have h40 := zs_sI C dX5_wed_40 (m_X5_keysOf N) zw_626 ⟨Nat.le_of_ble_eq_true rfl, Nat.le_of_ble_eq_true rfl⟩ h43
    have h37 := zs_gR C dX5_wed_37 zf_5_0 zw_543 h40
    have h36 := zs_aload_n (i := 0) C dX5_wed_36 rfl h37
    have h33 := zs_sV C dX5_wed_33 (m_X5_wedOn N) zw_700 ⟨Nat.le_of_ble_eq_true rfl, Nat.le_of_ble_eq_true rfl⟩ h36
    have h32 := zs_iload_n (i := 1) C dX5_wed_32 rfl h33
    have h29 := zs_gR C dX5_wed_29 zf_5_0 zw_543 h32
    have h28 := zs_aload_n (i := 0) C dX5_wed_28 rfl h29
    have h25 := zs_vV C dX5_wed_25 (m_X5_know N) zw_674 ⟨Nat.le_of_ble_eq_true rfl, Nat.le_of_ble_eq_true rfl⟩ h28
    have h24 := zs_aload_n (i := 0) C dX5_wed_24 rfl h25
    have h23 := zs_iret C dX5_wed_23
    have h21 := zs_bipush (v := (-2)) C dX5_wed_21 (by decide) h23
    have h18 := zs_if_ne (tgt := 24) C dX5_wed_18 (by decide) h24 h21
    have h15 := zs_sI C dX5_wed_15 (m_X5_isParted N) zw_617 ⟨Nat.le_of_ble_eq_true rfl, Nat.le_of_ble_eq_true rfl⟩ h18
    have h14 := zs_iload_n (i := 1) C dX5_wed_14 rfl h15
    have h11 := zs_gR C dX5_wed_11 zf_5_0 zw_543 h14
    have h10 := zs_aload_n (i := 0) C dX5_wed_10 rfl h11
    have h9 := zs_iret C dX5_wed_9
    have h8 := zs_iconst (v := (-1)) C dX5_wed_8 (by decide) h9
    have h5 := zs_if_ne (tgt := 10) C dX5_wed_5 (by decide) h10 h8
    have h2 := zs_vI C dX5_wed_2 (m_X5_isCouple N) zw_613 ⟨Nat.le_of_ble_eq_true rfl, Nat.le_of_ble_eq_true rfl⟩ h5
    have h1 := zs_iload_n (i := 1) C dX5_wed_1 rfl h2
    have h0 := zs_aload_n (i := 0) C dX5_wed_0 rfl h1
    exact h0
  case hG =>
    intro as μ r h
    obtain ⟨x0, x1, rfl, h⟩ := g_X5_wed_i h
    exact ⟨Nat.le_of_ble_eq_true rfl, h⟩
theorem m_X5_wed (N : Nat) : zk_MV yX5_wed cX5_wed 2 (some .int) ({ frames := 4, cells := 0, slots := 0, locals := 86 } : Room) zq_I (g_X5_wed N) 1 5 := ⟨c_X5_wed N, zw_699, zw_697, zw_698, zw_31, rfl, rfl, by decide +kernel, by decide, ⟨TX5, 18, rfl⟩, fun as μ r h => by obtain ⟨x0, x1, rfl, -⟩ := g_X5_wed_i h; exact ⟨_, _, rfl⟩⟩
-- LongestWedModel.drift(I)I
def f_X5_drift_L31 (N : Nat) : Nat → Nat → Int32 → Int32 → ZM → Option (Int32 × ZM)
  | 0, _, _, _, _ => none
  | n + 1, x0, x1, x2, μ =>
    if x1 ≤ x2 then
      (f_X5_keysOf N (x0 + 1) μ).bind fun r1 =>
      some (r1.1, r1.2)
    else
      (f_X5_know N x0 μ).bind fun r2 =>
      let μ3 := zk_si r2 (x0 + 1) 3 (Int64.toInt32 ((((Int32.toInt64 (r2.1 (x0 + 1) 3)) * 1103515245) + 12345) - (((Int32.toInt64 (r2.1 (x0 + 1) 3)) * 1103515245) + 12345) / 2147483648 * 2147483648))
      let j144 : ZM → Option (Int32 × ZM) := fun μ4 =>
        (f_X5_passOn N x0 (x0 + 1) μ4).bind fun r5 =>
        f_X5_drift_L31 N n x0 x1 (x2 + 1) r5
      if (μ3.1 (x0 + 1) 0) ≤ 0 then
        j144 μ3
      else
        if (μ3.1 (x0 + 1) 0) = 0 then none else
        (f_X5_isParted N (x0 + 1) (((μ3.1 (x0 + 1) 3) / 65536) - ((μ3.1 (x0 + 1) 3) / 65536) / (μ3.1 (x0 + 1) 0) * (μ3.1 (x0 + 1) 0)) μ3).bind fun r6 =>
        if ¬ r6.1 = 0 then
          if ¬ (((μ3.1 (x0 + 1) 3) / 128) - ((μ3.1 (x0 + 1) 3) / 128) / 7 * 7) = 0 then
            j144 r6.2
          else
            (f_X5_wedOn N (x0 + 1) (((μ3.1 (x0 + 1) 3) / 65536) - ((μ3.1 (x0 + 1) 3) / 65536) / (μ3.1 (x0 + 1) 0) * (μ3.1 (x0 + 1) 0)) r6.2).bind fun r7 =>
            j144 r7
        else
          (f_X5_stirOn N (x0 + 1) (((μ3.1 (x0 + 1) 3) / 65536) - ((μ3.1 (x0 + 1) 3) / 65536) / (μ3.1 (x0 + 1) 0) * (μ3.1 (x0 + 1) 0)) (((μ3.1 (x0 + 1) 3) / 128) - ((μ3.1 (x0 + 1) 3) / 128) / 7 * 7) r6.2).bind fun r8 =>
          j144 r8
def k_X5_drift_L31 (N n : Nat) : ZK (Int32 × ZM) := fun L st μ => match L, st with
  | [some (.inr (.inr (5, x0))), some (.inl x1), some (.inl x2), _, _], [] => f_X5_drift_L31 N n x0 x1 x2 μ
  | _, _ => none
theorem k_X5_drift_L31_i {N : Nat} {n : Nat} {L : ZL} {st : List ZV} {μ : ZM} {r : Int32 × ZM} (h : k_X5_drift_L31 N n L st μ = some r) : ∃ (x0 : Nat) (x1 : Int32) (x2 : Int32) (u3 : Option ZV) (u4 : Option ZV), L = [some (.inr (.inr (5, x0))), some (.inl x1), some (.inl x2), u3, u4] ∧ st = [] ∧ f_X5_drift_L31 N n x0 x1 x2 μ = some r := by
  unfold k_X5_drift_L31 at h
  split at h
  · exact ⟨_, _, _, _, _, rfl, rfl, h⟩
  · cases h
set_option maxRecDepth 100000 in
theorem s_X5_drift_L31 (N : Nat) {X : ZX} {E : ZE} (C : zk_X X E RX5 cX5_drift 5 (some .int) ({ frames := 7, cells := 0, slots := 0, locals := 155 } : Room)) : ∀ n, zk_S X E 5 zq_I 31 (k_X5_drift_L31 N n) := by
  intro n
  induction n with
  | zero =>
    intro H locs ls L st μ r h hL hst hW hS
    obtain ⟨x0, x1, x2, u3, u4, rfl, rfl, h⟩ := k_X5_drift_L31_i h
    exact nomatch (show none = some r from h)
  | succ n ih =>
    have h165 := zs_iret C dX5_drift_165
    have h162 := zs_sI C dX5_drift_162 (m_X5_keysOf N) zw_626 ⟨Nat.le_of_ble_eq_true rfl, Nat.le_of_ble_eq_true rfl⟩ h165
    have h159 := zs_gR C dX5_drift_159 zf_5_0 zw_543 h162
    have h158 := zs_aload_n (i := 0) C dX5_drift_158 rfl h159
    have h155 := zs_goto (tgt := 31) C dX5_drift_155 (by decide) ih
    have h152 := zs_iinc (n := 1) C dX5_drift_152 (by decide) h155
    have h149 := zs_vV C dX5_drift_149 (m_X5_passOn N) zw_678 ⟨Nat.le_of_ble_eq_true rfl, Nat.le_of_ble_eq_true rfl⟩ h152
    have h146 := zs_gR C dX5_drift_146 zf_5_0 zw_543 h149
    have h145 := zs_aload_n (i := 0) C dX5_drift_145 rfl h146
    have h144 := zs_aload_n (i := 0) C dX5_drift_144 rfl h145
    have h141 := zs_sV C dX5_drift_141 (m_X5_wedOn N) zw_700 ⟨Nat.le_of_ble_eq_true rfl, Nat.le_of_ble_eq_true rfl⟩ h144
    have h140 := zs_iload_n (i := 3) C dX5_drift_140 rfl h141
    have h137 := zs_gR C dX5_drift_137 zf_5_0 zw_543 h140
    have h136 := zs_aload_n (i := 0) C dX5_drift_136 rfl h137
    have h133 := zs_if_ne (tgt := 144) C dX5_drift_133 (by decide) h144 h136
    have h131 := zs_iload (i := 4) C dX5_drift_131 h133
    have h128 := zs_goto (tgt := 144) C dX5_drift_128 (by decide) h144
    have h125 := zs_sV C dX5_drift_125 (m_X5_stirOn N) zw_693 ⟨Nat.le_of_ble_eq_true rfl, Nat.le_of_ble_eq_true rfl⟩ h128
    have h123 := zs_iload (i := 4) C dX5_drift_123 h125
    have h122 := zs_iload_n (i := 3) C dX5_drift_122 rfl h123
    have h119 := zs_gR C dX5_drift_119 zf_5_0 zw_543 h122
    have h118 := zs_aload_n (i := 0) C dX5_drift_118 rfl h119
    have h115 := zs_if_ne (tgt := 131) C dX5_drift_115 (by decide) h131 h118
    have h112 := zs_sI C dX5_drift_112 (m_X5_isParted N) zw_617 ⟨Nat.le_of_ble_eq_true rfl, Nat.le_of_ble_eq_true rfl⟩ h115
    have h111 := zs_iload_n (i := 3) C dX5_drift_111 rfl h112
    have h108 := zs_gR C dX5_drift_108 zf_5_0 zw_543 h111
    have h107 := zs_aload_n (i := 0) C dX5_drift_107 rfl h108
    have h105 := zs_istore (i := 4) C dX5_drift_105 h107
    have h104 := zs_irem C dX5_drift_104 h105
    have h102 := zs_bipush (v := 7) C dX5_drift_102 (by decide) h104
    have h101 := zs_idiv C dX5_drift_101 h102
    have h98 := zs_sipush (v := 128) C dX5_drift_98 (by decide) h101
    have h97 := zs_iald (n := 32) C dX5_drift_97 (by decide) h98
    have h96 := zs_iconst (v := 3) C dX5_drift_96 (by decide) h97
    have h93 := zs_gR C dX5_drift_93 zf_5_0 zw_543 h96
    have h92 := zs_aload_n (i := 0) C dX5_drift_92 rfl h93
    have h91 := zs_istore_n (i := 3) C dX5_drift_91 rfl h92
    have h90 := zs_irem C dX5_drift_90 h91
    have h89 := zs_iald (n := 32) C dX5_drift_89 (by decide) h90
    have h88 := zs_iconst (v := 0) C dX5_drift_88 (by decide) h89
    have h85 := zs_gR C dX5_drift_85 zf_5_0 zw_543 h88
    have h84 := zs_aload_n (i := 0) C dX5_drift_84 rfl h85
    have h83 := zs_idiv C dX5_drift_83 h84
    have h81 := zs_ldc (v := 65536) C dX5_drift_81 zw_710 h83
    have h80 := zs_iald (n := 32) C dX5_drift_80 (by decide) h81
    have h79 := zs_iconst (v := 3) C dX5_drift_79 (by decide) h80
    have h76 := zs_gR C dX5_drift_76 zf_5_0 zw_543 h79
    have h75 := zs_aload_n (i := 0) C dX5_drift_75 rfl h76
    have h72 := zs_if_le (tgt := 144) C dX5_drift_72 (by decide) h144 h75
    have h71 := zs_iald (n := 32) C dX5_drift_71 (by decide) h72
    have h70 := zs_iconst (v := 0) C dX5_drift_70 (by decide) h71
    have h67 := zs_gR C dX5_drift_67 zf_5_0 zw_543 h70
    have h66 := zs_aload_n (i := 0) C dX5_drift_66 rfl h67
    have h65 := zs_iast (n := 32) C dX5_drift_65 (by decide) h66
    have h64 := zs_l2i C dX5_drift_64 h65
    have h63 := zs_lrem C dX5_drift_63 h64
    have h60 := zs_ldc2 (v := 2147483648) C dX5_drift_60 zw_709 h63
    have h59 := zs_ladd C dX5_drift_59 h60
    have h56 := zs_ldc2 (v := 12345) C dX5_drift_56 zw_708 h59
    have h55 := zs_lmul C dX5_drift_55 h56
    have h52 := zs_ldc2 (v := 1103515245) C dX5_drift_52 zw_707 h55
    have h51 := zs_i2l C dX5_drift_51 h52
    have h50 := zs_iald (n := 32) C dX5_drift_50 (by decide) h51
    have h49 := zs_iconst (v := 3) C dX5_drift_49 (by decide) h50
    have h46 := zs_gR C dX5_drift_46 zf_5_0 zw_543 h49
    have h45 := zs_aload_n (i := 0) C dX5_drift_45 rfl h46
    have h44 := zs_iconst (v := 3) C dX5_drift_44 (by decide) h45
    have h41 := zs_gR C dX5_drift_41 zf_5_0 zw_543 h44
    have h40 := zs_aload_n (i := 0) C dX5_drift_40 rfl h41
    have h37 := zs_vV C dX5_drift_37 (m_X5_know N) zw_674 ⟨Nat.le_of_ble_eq_true rfl, Nat.le_of_ble_eq_true rfl⟩ h40
    have h36 := zs_aload_n (i := 0) C dX5_drift_36 rfl h37
    have h33 := zs_icmp_ge (tgt := 158) C dX5_drift_33 (by decide) h158 h36
    have h32 := zs_iload_n (i := 1) C dX5_drift_32 rfl h33
    have h31 := zs_iload_n (i := 2) C dX5_drift_31 rfl h32
    intro H locs ls L st μ r h hL hst hW hS
    obtain ⟨x0, x1, x2, u3, u4, rfl, rfl, h⟩ := k_X5_drift_L31_i h
    exact h31 H locs ls [some (.inr (.inr (5, x0))), some (.inl x1), some (.inl x2), none, none] [] μ r h (hL.less ⟨rfl, rfl, rfl, trivial⟩) hst hW hS
def f_X5_drift (N : Nat) (x0 : Nat) (x1 : Int32) (μ : ZM) : Option (Int32 × ZM) :=
  (f_X5_in N x1 1 40 μ).bind fun r1 =>
  if ¬ r1.1 = 0 then
    if ((r1.2.1 (x0 + 1) 1) + x1) ≤ (9999 : Int32) then
      f_X5_drift_L31 N N x0 x1 0 r1.2
    else
      some ((-3), r1.2)
  else
    some ((-1), r1.2)
def g_X5_drift (N : Nat) (as : List ZV) (μ : ZM) : Option (Int32 × ZM) := match as with
  | [.inr (.inr (5, x0)), .inl x1] => f_X5_drift N x0 x1 μ
  | _ => none
theorem g_X5_drift_i {N : Nat} {as : List ZV} {μ : ZM} {r : Int32 × ZM} (h : g_X5_drift N as μ = some r) : ∃ (x0 : Nat) (x1 : Int32), as = [.inr (.inr (5, x0)), .inl x1] ∧ f_X5_drift N x0 x1 μ = some r := by
  unfold g_X5_drift at h
  split at h
  · exact ⟨_, _, rfl, h⟩
  · cases h
set_option maxRecDepth 100000 in
theorem c_X5_drift (N : Nat) : zk_C yX5_drift cX5_drift 5 (some .int) ({ frames := 7, cells := 0, slots := 0, locals := 155 } : Room) zq_I (g_X5_drift N) := by
  refine zk_met ?κ (by decide +kernel) ?hG ?body
  case body =>
    intro X E C
    have C : zk_X X E RX5 cX5_drift 5 (some .int) ({ frames := 7, cells := 0, slots := 0, locals := 155 } : Room) := C
    have e31 := s_X5_drift_L31 N C N
    have h30 := zs_istore_n (i := 2) C dX5_drift_30 rfl e31
    have h29 := zs_iconst (v := 0) C dX5_drift_29 (by decide) h30
    have h28 := zs_iret C dX5_drift_28
    have h26 := zs_bipush (v := (-3)) C dX5_drift_26 (by decide) h28
    have h23 := zs_icmp_le (tgt := 29) C dX5_drift_23 (by decide) h29 h26
    have h20 := zs_sipush (v := 9999) C dX5_drift_20 (by decide) h23
    have h19 := zs_iadd C dX5_drift_19 h20
    have h18 := zs_iload_n (i := 1) C dX5_drift_18 rfl h19
    have h17 := zs_iald (n := 32) C dX5_drift_17 (by decide) h18
    have h16 := zs_iconst (v := 1) C dX5_drift_16 (by decide) h17
    have h13 := zs_gR C dX5_drift_13 zf_5_0 zw_543 h16
    have h12 := zs_aload_n (i := 0) C dX5_drift_12 rfl h13
    have h11 := zs_iret C dX5_drift_11
    have h10 := zs_iconst (v := (-1)) C dX5_drift_10 (by decide) h11
    have h7 := zs_if_ne (tgt := 12) C dX5_drift_7 (by decide) h12 h10
    have h4 := zs_sI C dX5_drift_4 (m_X5_in N) zw_603 ⟨Nat.le_of_ble_eq_true rfl, Nat.le_of_ble_eq_true rfl⟩ h7
    have h2 := zs_bipush (v := 40) C dX5_drift_2 (by decide) h4
    have h1 := zs_iconst (v := 1) C dX5_drift_1 (by decide) h2
    have h0 := zs_iload_n (i := 1) C dX5_drift_0 rfl h1
    exact h0
  case hG =>
    intro as μ r h
    obtain ⟨x0, x1, rfl, h⟩ := g_X5_drift_i h
    exact ⟨Nat.le_of_ble_eq_true rfl, h⟩
theorem m_X5_drift (N : Nat) : zk_MV yX5_drift cX5_drift 5 (some .int) ({ frames := 7, cells := 0, slots := 0, locals := 155 } : Room) zq_I (g_X5_drift N) 1 5 := ⟨c_X5_drift N, zw_706, zw_704, zw_705, zw_31, rfl, rfl, by decide +kernel, by decide, ⟨TX5, 18, rfl⟩, fun as μ r h => by obtain ⟨x0, x1, rfl, -⟩ := g_X5_drift_i h; exact ⟨_, _, rfl⟩⟩
-- LongestWedModel.undo()I
def f_X5_undo_L22 (N : Nat) : Nat → Nat → Int32 → ZM → Option (Int32 × ZM)
  | 0, _, _, _ => none
  | n + 1, x0, x1, μ =>
    if (32 : Int32) ≤ x1 then
      some ((μ.1 x0 3), μ)
    else
      if zk_o ((32 * (μ.1 x0 3)) + x1) 256 = true then none else
      if zk_o x1 32 = true then none else
      let μ1 := zk_si μ (x0 + 1) (Int32.toNatClampNeg x1) (μ.1 (x0 + 3) (Int32.toNatClampNeg ((32 * (μ.1 x0 3)) + x1)))
      f_X5_undo_L22 N n x0 (x1 + 1) μ1
def k_X5_undo_L22 (N n : Nat) : ZK (Int32 × ZM) := fun L st μ => match L, st with
  | [some (.inr (.inr (5, x0))), some (.inl x1)], [] => f_X5_undo_L22 N n x0 x1 μ
  | _, _ => none
theorem k_X5_undo_L22_i {N : Nat} {n : Nat} {L : ZL} {st : List ZV} {μ : ZM} {r : Int32 × ZM} (h : k_X5_undo_L22 N n L st μ = some r) : ∃ (x0 : Nat) (x1 : Int32), L = [some (.inr (.inr (5, x0))), some (.inl x1)] ∧ st = [] ∧ f_X5_undo_L22 N n x0 x1 μ = some r := by
  unfold k_X5_undo_L22 at h
  split at h
  · exact ⟨_, _, rfl, rfl, h⟩
  · cases h
set_option maxRecDepth 100000 in
theorem s_X5_undo_L22 (N : Nat) {X : ZX} {E : ZE} (C : zk_X X E RX5 cX5_undo 2 (some .int) ({ frames := 0, cells := 0, slots := 0, locals := 0 } : Room)) : ∀ n, zk_S X E 2 zq_I 22 (k_X5_undo_L22 N n) := by
  intro n
  induction n with
  | zero =>
    intro H locs ls L st μ r h hL hst hW hS
    obtain ⟨x0, x1, rfl, rfl, h⟩ := k_X5_undo_L22_i h
    exact nomatch (show none = some r from h)
  | succ n ih =>
    have h58 := zs_iret C dX5_undo_58
    have h55 := zs_gI C dX5_undo_55 zf_5_3 zw_546 h58
    have h54 := zs_aload_n (i := 0) C dX5_undo_54 rfl h55
    have h51 := zs_goto (tgt := 22) C dX5_undo_51 (by decide) ih
    have h48 := zs_iinc (n := 1) C dX5_undo_48 (by decide) h51
    have h47 := zs_iast (n := 32) C dX5_undo_47 (by decide) h48
    have h46 := zs_iald (n := 256) C dX5_undo_46 (by decide) h47
    have h45 := zs_iadd C dX5_undo_45 h46
    have h44 := zs_iload_n (i := 1) C dX5_undo_44 rfl h45
    have h43 := zs_imul C dX5_undo_43 h44
    have h40 := zs_gI C dX5_undo_40 zf_5_3 zw_546 h43
    have h39 := zs_aload_n (i := 0) C dX5_undo_39 rfl h40
    have h37 := zs_bipush (v := 32) C dX5_undo_37 (by decide) h39
    have h34 := zs_gR C dX5_undo_34 zf_5_2 zw_545 h37
    have h33 := zs_aload_n (i := 0) C dX5_undo_33 rfl h34
    have h32 := zs_iload_n (i := 1) C dX5_undo_32 rfl h33
    have h29 := zs_gR C dX5_undo_29 zf_5_0 zw_543 h32
    have h28 := zs_aload_n (i := 0) C dX5_undo_28 rfl h29
    have h25 := zs_icmp_ge (tgt := 54) C dX5_undo_25 (by decide) h54 h28
    have h23 := zs_bipush (v := 32) C dX5_undo_23 (by decide) h25
    have h22 := zs_iload_n (i := 1) C dX5_undo_22 rfl h23
    intro H locs ls L st μ r h hL hst hW hS
    obtain ⟨x0, x1, rfl, rfl, h⟩ := k_X5_undo_L22_i h
    exact h22 H locs ls [some (.inr (.inr (5, x0))), some (.inl x1)] [] μ r h (hL.less ⟨rfl, rfl, trivial⟩) hst hW hS
def f_X5_undo (N : Nat) (x0 : Nat) (μ : ZM) : Option (Int32 × ZM) :=
  if ¬ (μ.1 x0 3) = 0 then
    let μ1 := zk_si μ x0 3 ((μ.1 x0 3) - 1)
    f_X5_undo_L22 N N x0 0 μ1
  else
    some ((-4), μ)
def g_X5_undo (N : Nat) (as : List ZV) (μ : ZM) : Option (Int32 × ZM) := match as with
  | [.inr (.inr (5, x0))] => f_X5_undo N x0 μ
  | _ => none
theorem g_X5_undo_i {N : Nat} {as : List ZV} {μ : ZM} {r : Int32 × ZM} (h : g_X5_undo N as μ = some r) : ∃ (x0 : Nat), as = [.inr (.inr (5, x0))] ∧ f_X5_undo N x0 μ = some r := by
  unfold g_X5_undo at h
  split at h
  · exact ⟨_, rfl, h⟩
  · cases h
set_option maxRecDepth 100000 in
theorem c_X5_undo (N : Nat) : zk_C yX5_undo cX5_undo 2 (some .int) ({ frames := 0, cells := 0, slots := 0, locals := 0 } : Room) zq_I (g_X5_undo N) := by
  refine zk_met ?κ (by decide +kernel) ?hG ?body
  case body =>
    intro X E C
    have C : zk_X X E RX5 cX5_undo 2 (some .int) ({ frames := 0, cells := 0, slots := 0, locals := 0 } : Room) := C
    have e22 := s_X5_undo_L22 N C N
    have h21 := zs_istore_n (i := 1) C dX5_undo_21 rfl e22
    have h20 := zs_iconst (v := 0) C dX5_undo_20 (by decide) h21
    have h17 := zs_pI C dX5_undo_17 zf_5_3 zw_546 rfl (by decide +kernel) h20
    have h16 := zs_isub C dX5_undo_16 h17
    have h15 := zs_iconst (v := 1) C dX5_undo_15 (by decide) h16
    have h12 := zs_gI C dX5_undo_12 zf_5_3 zw_546 h15
    have h11 := zs_dup C dX5_undo_11 h12
    have h10 := zs_aload_n (i := 0) C dX5_undo_10 rfl h11
    have h9 := zs_iret C dX5_undo_9
    have h7 := zs_bipush (v := (-4)) C dX5_undo_7 (by decide) h9
    have h4 := zs_if_ne (tgt := 10) C dX5_undo_4 (by decide) h10 h7
    have h1 := zs_gI C dX5_undo_1 zf_5_3 zw_546 h4
    have h0 := zs_aload_n (i := 0) C dX5_undo_0 rfl h1
    exact h0
  case hG =>
    intro as μ r h
    obtain ⟨x0, rfl, h⟩ := g_X5_undo_i h
    exact ⟨Nat.le_of_ble_eq_true rfl, h⟩
theorem m_X5_undo (N : Nat) : zk_MV yX5_undo cX5_undo 2 (some .int) ({ frames := 0, cells := 0, slots := 0, locals := 0 } : Room) zq_I (g_X5_undo N) 0 5 := ⟨c_X5_undo N, zw_714, zw_712, zw_713, zw_31, rfl, rfl, by decide +kernel, by decide, ⟨TX5, 18, rfl⟩, fun as μ r h => by obtain ⟨x0, rfl, -⟩ := g_X5_undo_i h; exact ⟨_, _, rfl⟩⟩
-- LongestWedModel.seed(I)I
def f_X5_seed (N : Nat) (x0 : Nat) (x1 : Int32) (μ : ZM) : Option (Int32 × ZM) :=
  if 0 ≤ x1 then
    let μ1 := zk_si μ (x0 + 1) 3 x1
    some ((μ.1 (x0 + 1) 3), μ1)
  else
    some ((-1), μ)
def g_X5_seed (N : Nat) (as : List ZV) (μ : ZM) : Option (Int32 × ZM) := match as with
  | [.inr (.inr (5, x0)), .inl x1] => f_X5_seed N x0 x1 μ
  | _ => none
theorem g_X5_seed_i {N : Nat} {as : List ZV} {μ : ZM} {r : Int32 × ZM} (h : g_X5_seed N as μ = some r) : ∃ (x0 : Nat) (x1 : Int32), as = [.inr (.inr (5, x0)), .inl x1] ∧ f_X5_seed N x0 x1 μ = some r := by
  unfold g_X5_seed at h
  split at h
  · exact ⟨_, _, rfl, h⟩
  · cases h
set_option maxRecDepth 100000 in
theorem c_X5_seed (N : Nat) : zk_C yX5_seed cX5_seed 3 (some .int) ({ frames := 0, cells := 0, slots := 0, locals := 0 } : Room) zq_I (g_X5_seed N) := by
  refine zk_met ?κ (by decide +kernel) ?hG ?body
  case body =>
    intro X E C
    have C : zk_X X E RX5 cX5_seed 3 (some .int) ({ frames := 0, cells := 0, slots := 0, locals := 0 } : Room) := C
    have h21 := zs_iret C dX5_seed_21
    have h20 := zs_iload_n (i := 2) C dX5_seed_20 rfl h21
    have h19 := zs_iast (n := 32) C dX5_seed_19 (by decide) h20
    have h18 := zs_iload_n (i := 1) C dX5_seed_18 rfl h19
    have h17 := zs_iconst (v := 3) C dX5_seed_17 (by decide) h18
    have h14 := zs_gR C dX5_seed_14 zf_5_0 zw_543 h17
    have h13 := zs_aload_n (i := 0) C dX5_seed_13 rfl h14
    have h12 := zs_istore_n (i := 2) C dX5_seed_12 rfl h13
    have h11 := zs_iald (n := 32) C dX5_seed_11 (by decide) h12
    have h10 := zs_iconst (v := 3) C dX5_seed_10 (by decide) h11
    have h7 := zs_gR C dX5_seed_7 zf_5_0 zw_543 h10
    have h6 := zs_aload_n (i := 0) C dX5_seed_6 rfl h7
    have h5 := zs_iret C dX5_seed_5
    have h4 := zs_iconst (v := (-1)) C dX5_seed_4 (by decide) h5
    have h1 := zs_if_ge (tgt := 6) C dX5_seed_1 (by decide) h6 h4
    have h0 := zs_iload_n (i := 1) C dX5_seed_0 rfl h1
    exact h0
  case hG =>
    intro as μ r h
    obtain ⟨x0, x1, rfl, h⟩ := g_X5_seed_i h
    exact ⟨Nat.le_of_ble_eq_true rfl, h⟩
theorem m_X5_seed (N : Nat) : zk_MV yX5_seed cX5_seed 3 (some .int) ({ frames := 0, cells := 0, slots := 0, locals := 0 } : Room) zq_I (g_X5_seed N) 1 5 := ⟨c_X5_seed N, zw_718, zw_716, zw_717, zw_31, rfl, rfl, by decide +kernel, by decide, ⟨TX5, 18, rfl⟩, fun as μ r h => by obtain ⟨x0, x1, rfl, -⟩ := g_X5_seed_i h; exact ⟨_, _, rfl⟩⟩
-- LongestWedModel.goOn(I)V
def f_X5_goOn_L2 (N : Nat) : Nat → Nat → Int32 → Int32 → ZM → Option (ZM)
  | 0, _, _, _, _ => none
  | n + 1, x0, x1, x2, μ =>
    if x1 ≤ x2 then
      some μ
    else
      (f_X5_passOn N x0 (x0 + 2) μ).bind fun r1 =>
      f_X5_goOn_L2 N n x0 x1 (x2 + 1) r1
def k_X5_goOn_L2 (N n : Nat) : ZK (ZM) := fun L st μ => match L, st with
  | [some (.inr (.inr (5, x0))), some (.inl x1), some (.inl x2)], [] => f_X5_goOn_L2 N n x0 x1 x2 μ
  | _, _ => none
theorem k_X5_goOn_L2_i {N : Nat} {n : Nat} {L : ZL} {st : List ZV} {μ : ZM} {r : ZM} (h : k_X5_goOn_L2 N n L st μ = some r) : ∃ (x0 : Nat) (x1 : Int32) (x2 : Int32), L = [some (.inr (.inr (5, x0))), some (.inl x1), some (.inl x2)] ∧ st = [] ∧ f_X5_goOn_L2 N n x0 x1 x2 μ = some r := by
  unfold k_X5_goOn_L2 at h
  split at h
  · exact ⟨_, _, _, rfl, rfl, h⟩
  · cases h
set_option maxRecDepth 100000 in
theorem s_X5_goOn_L2 (N : Nat) {X : ZX} {E : ZE} (C : zk_X X E RX5 cX5_goOn 3 none ({ frames := 7, cells := 0, slots := 0, locals := 155 } : Room)) : ∀ n, zk_S X E 3 zq_V 2 (k_X5_goOn_L2 N n) := by
  intro n
  induction n with
  | zero =>
    intro H locs ls L st μ r h hL hst hW hS
    obtain ⟨x0, x1, x2, rfl, rfl, h⟩ := k_X5_goOn_L2_i h
    exact nomatch (show none = some r from h)
  | succ n ih =>
    have h21 := zs_vret C dX5_goOn_21
    have h18 := zs_goto (tgt := 2) C dX5_goOn_18 (by decide) ih
    have h15 := zs_iinc (n := 1) C dX5_goOn_15 (by decide) h18
    have h12 := zs_vV C dX5_goOn_12 (m_X5_passOn N) zw_678 ⟨Nat.le_of_ble_eq_true rfl, Nat.le_of_ble_eq_true rfl⟩ h15
    have h9 := zs_gR C dX5_goOn_9 zf_5_1 zw_544 h12
    have h8 := zs_aload_n (i := 0) C dX5_goOn_8 rfl h9
    have h7 := zs_aload_n (i := 0) C dX5_goOn_7 rfl h8
    have h4 := zs_icmp_ge (tgt := 21) C dX5_goOn_4 (by decide) h21 h7
    have h3 := zs_iload_n (i := 1) C dX5_goOn_3 rfl h4
    have h2 := zs_iload_n (i := 2) C dX5_goOn_2 rfl h3
    intro H locs ls L st μ r h hL hst hW hS
    obtain ⟨x0, x1, x2, rfl, rfl, h⟩ := k_X5_goOn_L2_i h
    exact h2 H locs ls [some (.inr (.inr (5, x0))), some (.inl x1), some (.inl x2)] [] μ r h (hL.less ⟨rfl, rfl, rfl, trivial⟩) hst hW hS
def f_X5_goOn (N : Nat) (x0 : Nat) (x1 : Int32) (μ : ZM) : Option (ZM) :=
  f_X5_goOn_L2 N N x0 x1 0 μ
def g_X5_goOn (N : Nat) (as : List ZV) (μ : ZM) : Option (ZM) := match as with
  | [.inr (.inr (5, x0)), .inl x1] => f_X5_goOn N x0 x1 μ
  | _ => none
theorem g_X5_goOn_i {N : Nat} {as : List ZV} {μ : ZM} {r : ZM} (h : g_X5_goOn N as μ = some r) : ∃ (x0 : Nat) (x1 : Int32), as = [.inr (.inr (5, x0)), .inl x1] ∧ f_X5_goOn N x0 x1 μ = some r := by
  unfold g_X5_goOn at h
  split at h
  · exact ⟨_, _, rfl, h⟩
  · cases h
set_option maxRecDepth 100000 in
theorem c_X5_goOn (N : Nat) : zk_C yX5_goOn cX5_goOn 3 none ({ frames := 7, cells := 0, slots := 0, locals := 155 } : Room) zq_V (g_X5_goOn N) := by
  refine zk_met ?κ (by decide +kernel) ?hG ?body
  case body =>
    intro X E C
    have C : zk_X X E RX5 cX5_goOn 3 none ({ frames := 7, cells := 0, slots := 0, locals := 155 } : Room) := C
    have e2 := s_X5_goOn_L2 N C N
    have h1 := zs_istore_n (i := 2) C dX5_goOn_1 rfl e2
    have h0 := zs_iconst (v := 0) C dX5_goOn_0 (by decide) h1
    exact h0
  case hG =>
    intro as μ r h
    obtain ⟨x0, x1, rfl, h⟩ := g_X5_goOn_i h
    exact ⟨Nat.le_of_ble_eq_true rfl, h⟩
theorem m_X5_goOn (N : Nat) : zk_MV yX5_goOn cX5_goOn 3 none ({ frames := 7, cells := 0, slots := 0, locals := 155 } : Room) zq_V (g_X5_goOn N) 1 5 := ⟨c_X5_goOn N, zw_730, zw_729, zw_22, zw_31, rfl, rfl, by decide +kernel, by decide, ⟨TX5, 18, rfl⟩, fun as μ r h => by obtain ⟨x0, x1, rfl, -⟩ := g_X5_goOn_i h; exact ⟨_, _, rfl⟩⟩
-- LongestWedModel.take()V
def f_X5_take_L2 (N : Nat) : Nat → Nat → Int32 → ZM → Option (ZM)
  | 0, _, _, _ => none
  | n + 1, x0, x1, μ =>
    if (32 : Int32) ≤ x1 then
      some μ
    else
      if zk_o x1 32 = true then none else
      if zk_o x1 32 = true then none else
      let μ1 := zk_si μ (x0 + 2) (Int32.toNatClampNeg x1) (μ.1 (x0 + 1) (Int32.toNatClampNeg x1))
      f_X5_take_L2 N n x0 (x1 + 1) μ1
def k_X5_take_L2 (N n : Nat) : ZK (ZM) := fun L st μ => match L, st with
  | [some (.inr (.inr (5, x0))), some (.inl x1)], [] => f_X5_take_L2 N n x0 x1 μ
  | _, _ => none
theorem k_X5_take_L2_i {N : Nat} {n : Nat} {L : ZL} {st : List ZV} {μ : ZM} {r : ZM} (h : k_X5_take_L2 N n L st μ = some r) : ∃ (x0 : Nat) (x1 : Int32), L = [some (.inr (.inr (5, x0))), some (.inl x1)] ∧ st = [] ∧ f_X5_take_L2 N n x0 x1 μ = some r := by
  unfold k_X5_take_L2 at h
  split at h
  · exact ⟨_, _, rfl, rfl, h⟩
  · cases h
set_option maxRecDepth 100000 in
theorem s_X5_take_L2 (N : Nat) {X : ZX} {E : ZE} (C : zk_X X E RX5 cX5_take 2 none ({ frames := 0, cells := 0, slots := 0, locals := 0 } : Room)) : ∀ n, zk_S X E 2 zq_V 2 (k_X5_take_L2 N n) := by
  intro n
  induction n with
  | zero =>
    intro H locs ls L st μ r h hL hst hW hS
    obtain ⟨x0, x1, rfl, rfl, h⟩ := k_X5_take_L2_i h
    exact nomatch (show none = some r from h)
  | succ n ih =>
    have h26 := zs_vret C dX5_take_26
    have h23 := zs_goto (tgt := 2) C dX5_take_23 (by decide) ih
    have h20 := zs_iinc (n := 1) C dX5_take_20 (by decide) h23
    have h19 := zs_iast (n := 32) C dX5_take_19 (by decide) h20
    have h18 := zs_iald (n := 32) C dX5_take_18 (by decide) h19
    have h17 := zs_iload_n (i := 1) C dX5_take_17 rfl h18
    have h14 := zs_gR C dX5_take_14 zf_5_0 zw_543 h17
    have h13 := zs_aload_n (i := 0) C dX5_take_13 rfl h14
    have h12 := zs_iload_n (i := 1) C dX5_take_12 rfl h13
    have h9 := zs_gR C dX5_take_9 zf_5_1 zw_544 h12
    have h8 := zs_aload_n (i := 0) C dX5_take_8 rfl h9
    have h5 := zs_icmp_ge (tgt := 26) C dX5_take_5 (by decide) h26 h8
    have h3 := zs_bipush (v := 32) C dX5_take_3 (by decide) h5
    have h2 := zs_iload_n (i := 1) C dX5_take_2 rfl h3
    intro H locs ls L st μ r h hL hst hW hS
    obtain ⟨x0, x1, rfl, rfl, h⟩ := k_X5_take_L2_i h
    exact h2 H locs ls [some (.inr (.inr (5, x0))), some (.inl x1)] [] μ r h (hL.less ⟨rfl, rfl, trivial⟩) hst hW hS
def f_X5_take (N : Nat) (x0 : Nat) (μ : ZM) : Option (ZM) :=
  f_X5_take_L2 N N x0 0 μ
def g_X5_take (N : Nat) (as : List ZV) (μ : ZM) : Option (ZM) := match as with
  | [.inr (.inr (5, x0))] => f_X5_take N x0 μ
  | _ => none
theorem g_X5_take_i {N : Nat} {as : List ZV} {μ : ZM} {r : ZM} (h : g_X5_take N as μ = some r) : ∃ (x0 : Nat), as = [.inr (.inr (5, x0))] ∧ f_X5_take N x0 μ = some r := by
  unfold g_X5_take at h
  split at h
  · exact ⟨_, rfl, h⟩
  · cases h
set_option maxRecDepth 100000 in
theorem c_X5_take (N : Nat) : zk_C yX5_take cX5_take 2 none ({ frames := 0, cells := 0, slots := 0, locals := 0 } : Room) zq_V (g_X5_take N) := by
  refine zk_met ?κ (by decide +kernel) ?hG ?body
  case body =>
    intro X E C
    have C : zk_X X E RX5 cX5_take 2 none ({ frames := 0, cells := 0, slots := 0, locals := 0 } : Room) := C
    have e2 := s_X5_take_L2 N C N
    have h1 := zs_istore_n (i := 1) C dX5_take_1 rfl e2
    have h0 := zs_iconst (v := 0) C dX5_take_0 (by decide) h1
    exact h0
  case hG =>
    intro as μ r h
    obtain ⟨x0, rfl, h⟩ := g_X5_take_i h
    exact ⟨Nat.le_of_ble_eq_true rfl, h⟩
theorem m_X5_take (N : Nat) : zk_MV yX5_take cX5_take 2 none ({ frames := 0, cells := 0, slots := 0, locals := 0 } : Room) zq_V (g_X5_take N) 0 5 := ⟨c_X5_take N, zw_726, zw_725, zw_21, zw_31, rfl, rfl, by decide +kernel, by decide, ⟨TX5, 18, rfl⟩, fun as μ r h => by obtain ⟨x0, rfl, -⟩ := g_X5_take_i h; exact ⟨_, _, rfl⟩⟩
-- LongestWedModel.keys(I)I
def f_X5_keys (N : Nat) (x0 : Nat) (x1 : Int32) (μ : ZM) : Option (Int32 × ZM) :=
  (f_X5_in N x1 0 60 μ).bind fun r1 =>
  if ¬ r1.1 = 0 then
    (f_X5_take N x0 r1.2).bind fun r2 =>
    (f_X5_goOn N x0 x1 r2).bind fun r3 =>
    (f_X5_keysOf N (x0 + 2) r3).bind fun r4 =>
    some (r4.1, r4.2)
  else
    some ((-1), r1.2)
def g_X5_keys (N : Nat) (as : List ZV) (μ : ZM) : Option (Int32 × ZM) := match as with
  | [.inr (.inr (5, x0)), .inl x1] => f_X5_keys N x0 x1 μ
  | _ => none
theorem g_X5_keys_i {N : Nat} {as : List ZV} {μ : ZM} {r : Int32 × ZM} (h : g_X5_keys N as μ = some r) : ∃ (x0 : Nat) (x1 : Int32), as = [.inr (.inr (5, x0)), .inl x1] ∧ f_X5_keys N x0 x1 μ = some r := by
  unfold g_X5_keys at h
  split at h
  · exact ⟨_, _, rfl, h⟩
  · cases h
set_option maxRecDepth 100000 in
theorem c_X5_keys (N : Nat) : zk_C yX5_keys cX5_keys 2 (some .int) ({ frames := 8, cells := 0, slots := 0, locals := 177 } : Room) zq_I (g_X5_keys N) := by
  refine zk_met ?κ (by decide +kernel) ?hG ?body
  case body =>
    intro X E C
    have C : zk_X X E RX5 cX5_keys 2 (some .int) ({ frames := 8, cells := 0, slots := 0, locals := 177 } : Room) := C
    have h28 := zs_iret C dX5_keys_28
    have h25 := zs_sI C dX5_keys_25 (m_X5_keysOf N) zw_626 ⟨Nat.le_of_ble_eq_true rfl, Nat.le_of_ble_eq_true rfl⟩ h28
    have h22 := zs_gR C dX5_keys_22 zf_5_1 zw_544 h25
    have h21 := zs_aload_n (i := 0) C dX5_keys_21 rfl h22
    have h18 := zs_vV C dX5_keys_18 (m_X5_goOn N) zw_727 ⟨Nat.le_of_ble_eq_true rfl, Nat.le_of_ble_eq_true rfl⟩ h21
    have h17 := zs_iload_n (i := 1) C dX5_keys_17 rfl h18
    have h16 := zs_aload_n (i := 0) C dX5_keys_16 rfl h17
    have h13 := zs_vV C dX5_keys_13 (m_X5_take N) zw_723 ⟨Nat.le_of_ble_eq_true rfl, Nat.le_of_ble_eq_true rfl⟩ h16
    have h12 := zs_aload_n (i := 0) C dX5_keys_12 rfl h13
    have h11 := zs_iret C dX5_keys_11
    have h10 := zs_iconst (v := (-1)) C dX5_keys_10 (by decide) h11
    have h7 := zs_if_ne (tgt := 12) C dX5_keys_7 (by decide) h12 h10
    have h4 := zs_sI C dX5_keys_4 (m_X5_in N) zw_603 ⟨Nat.le_of_ble_eq_true rfl, Nat.le_of_ble_eq_true rfl⟩ h7
    have h2 := zs_bipush (v := 60) C dX5_keys_2 (by decide) h4
    have h1 := zs_iconst (v := 0) C dX5_keys_1 (by decide) h2
    have h0 := zs_iload_n (i := 1) C dX5_keys_0 rfl h1
    exact h0
  case hG =>
    intro as μ r h
    obtain ⟨x0, x1, rfl, h⟩ := g_X5_keys_i h
    exact ⟨Nat.le_of_ble_eq_true rfl, h⟩
theorem m_X5_keys (N : Nat) : zk_MV yX5_keys cX5_keys 2 (some .int) ({ frames := 8, cells := 0, slots := 0, locals := 177 } : Room) zq_I (g_X5_keys N) 1 5 := ⟨c_X5_keys N, zw_722, zw_720, zw_721, zw_31, rfl, rfl, by decide +kernel, by decide, ⟨TX5, 18, rfl⟩, fun as μ r h => by obtain ⟨x0, x1, rfl, -⟩ := g_X5_keys_i h; exact ⟨_, _, rfl⟩⟩
-- LongestWedModel.ahead(II)I
def f_X5_ahead (N : Nat) (x0 : Nat) (x1 : Int32) (x2 : Int32) (μ : ZM) : Option (Int32 × ZM) :=
  (f_X5_isCouple N x0 x1 μ).bind fun r1 =>
  if r1.1 = 0 then
    some ((-1), r1.2)
  else
    (f_X5_in N x2 0 60 r1.2).bind fun r2 =>
    if ¬ r2.1 = 0 then
      (f_X5_take N x0 r2.2).bind fun r3 =>
      (f_X5_goOn N x0 x2 r3).bind fun r4 =>
      if zk_o (25 + x1) 32 = true then none else
      some ((r4.1 (x0 + 2) (Int32.toNatClampNeg (25 + x1))), r4)
    else
      some ((-1), r2.2)
def g_X5_ahead (N : Nat) (as : List ZV) (μ : ZM) : Option (Int32 × ZM) := match as with
  | [.inr (.inr (5, x0)), .inl x1, .inl x2] => f_X5_ahead N x0 x1 x2 μ
  | _ => none
theorem g_X5_ahead_i {N : Nat} {as : List ZV} {μ : ZM} {r : Int32 × ZM} (h : g_X5_ahead N as μ = some r) : ∃ (x0 : Nat) (x1 : Int32) (x2 : Int32), as = [.inr (.inr (5, x0)), .inl x1, .inl x2] ∧ f_X5_ahead N x0 x1 x2 μ = some r := by
  unfold g_X5_ahead at h
  split at h
  · exact ⟨_, _, _, rfl, h⟩
  · cases h
set_option maxRecDepth 100000 in
theorem c_X5_ahead (N : Nat) : zk_C yX5_ahead cX5_ahead 3 (some .int) ({ frames := 8, cells := 0, slots := 0, locals := 177 } : Room) zq_I (g_X5_ahead N) := by
  refine zk_met ?κ (by decide +kernel) ?hG ?body
  case body =>
    intro X E C
    have C : zk_X X E RX5 cX5_ahead 3 (some .int) ({ frames := 8, cells := 0, slots := 0, locals := 177 } : Room) := C
    have h38 := zs_iret C dX5_ahead_38
    have h37 := zs_iald (n := 32) C dX5_ahead_37 (by decide) h38
    have h36 := zs_iadd C dX5_ahead_36 h37
    have h35 := zs_iload_n (i := 1) C dX5_ahead_35 rfl h36
    have h33 := zs_bipush (v := 25) C dX5_ahead_33 (by decide) h35
    have h30 := zs_gR C dX5_ahead_30 zf_5_1 zw_544 h33
    have h29 := zs_aload_n (i := 0) C dX5_ahead_29 rfl h30
    have h26 := zs_vV C dX5_ahead_26 (m_X5_goOn N) zw_727 ⟨Nat.le_of_ble_eq_true rfl, Nat.le_of_ble_eq_true rfl⟩ h29
    have h25 := zs_iload_n (i := 2) C dX5_ahead_25 rfl h26
    have h24 := zs_aload_n (i := 0) C dX5_ahead_24 rfl h25
    have h21 := zs_vV C dX5_ahead_21 (m_X5_take N) zw_723 ⟨Nat.le_of_ble_eq_true rfl, Nat.le_of_ble_eq_true rfl⟩ h24
    have h20 := zs_aload_n (i := 0) C dX5_ahead_20 rfl h21
    have h19 := zs_iret C dX5_ahead_19
    have h18 := zs_iconst (v := (-1)) C dX5_ahead_18 (by decide) h19
    have h15 := zs_if_ne (tgt := 20) C dX5_ahead_15 (by decide) h20 h18
    have h12 := zs_sI C dX5_ahead_12 (m_X5_in N) zw_603 ⟨Nat.le_of_ble_eq_true rfl, Nat.le_of_ble_eq_true rfl⟩ h15
    have h10 := zs_bipush (v := 60) C dX5_ahead_10 (by decide) h12
    have h9 := zs_iconst (v := 0) C dX5_ahead_9 (by decide) h10
    have h8 := zs_iload_n (i := 2) C dX5_ahead_8 rfl h9
    have h5 := zs_if_eq (tgt := 18) C dX5_ahead_5 (by decide) h18 h8
    have h2 := zs_vI C dX5_ahead_2 (m_X5_isCouple N) zw_613 ⟨Nat.le_of_ble_eq_true rfl, Nat.le_of_ble_eq_true rfl⟩ h5
    have h1 := zs_iload_n (i := 1) C dX5_ahead_1 rfl h2
    have h0 := zs_aload_n (i := 0) C dX5_ahead_0 rfl h1
    exact h0
  case hG =>
    intro as μ r h
    obtain ⟨x0, x1, x2, rfl, h⟩ := g_X5_ahead_i h
    exact ⟨Nat.le_of_ble_eq_true rfl, h⟩
theorem m_X5_ahead (N : Nat) : zk_MV yX5_ahead cX5_ahead 3 (some .int) ({ frames := 8, cells := 0, slots := 0, locals := 177 } : Room) zq_I (g_X5_ahead N) 2 5 := ⟨c_X5_ahead N, zw_734, zw_732, zw_733, zw_31, rfl, rfl, by decide +kernel, by decide, ⟨TX5, 18, rfl⟩, fun as μ r h => by obtain ⟨x0, x1, x2, rfl, -⟩ := g_X5_ahead_i h; exact ⟨_, _, rfl⟩⟩
-- LongestWedModel.then(I)I
def f_X5_then (N : Nat) (x0 : Nat) (x1 : Int32) (μ : ZM) : Option (Int32 × ZM) :=
  (f_X5_in N x1 0 60 μ).bind fun r1 =>
  if ¬ r1.1 = 0 then
    (f_X5_take N x0 r1.2).bind fun r2 =>
    (f_X5_goOn N x0 x1 r2).bind fun r3 =>
    (f_X5_togetherOf N (x0 + 2) r3).bind fun r4 =>
    some (r4.1, r4.2)
  else
    some ((-1), r1.2)
def g_X5_then (N : Nat) (as : List ZV) (μ : ZM) : Option (Int32 × ZM) := match as with
  | [.inr (.inr (5, x0)), .inl x1] => f_X5_then N x0 x1 μ
  | _ => none
theorem g_X5_then_i {N : Nat} {as : List ZV} {μ : ZM} {r : Int32 × ZM} (h : g_X5_then N as μ = some r) : ∃ (x0 : Nat) (x1 : Int32), as = [.inr (.inr (5, x0)), .inl x1] ∧ f_X5_then N x0 x1 μ = some r := by
  unfold g_X5_then at h
  split at h
  · exact ⟨_, _, rfl, h⟩
  · cases h
set_option maxRecDepth 100000 in
theorem c_X5_then (N : Nat) : zk_C yX5_then cX5_then 2 (some .int) ({ frames := 8, cells := 0, slots := 0, locals := 177 } : Room) zq_I (g_X5_then N) := by
  refine zk_met ?κ (by decide +kernel) ?hG ?body
  case body =>
    intro X E C
    have C : zk_X X E RX5 cX5_then 2 (some .int) ({ frames := 8, cells := 0, slots := 0, locals := 177 } : Room) := C
    have h28 := zs_iret C dX5_then_28
    have h25 := zs_sI C dX5_then_25 (m_X5_togetherOf N) zw_667 ⟨Nat.le_of_ble_eq_true rfl, Nat.le_of_ble_eq_true rfl⟩ h28
    have h22 := zs_gR C dX5_then_22 zf_5_1 zw_544 h25
    have h21 := zs_aload_n (i := 0) C dX5_then_21 rfl h22
    have h18 := zs_vV C dX5_then_18 (m_X5_goOn N) zw_727 ⟨Nat.le_of_ble_eq_true rfl, Nat.le_of_ble_eq_true rfl⟩ h21
    have h17 := zs_iload_n (i := 1) C dX5_then_17 rfl h18
    have h16 := zs_aload_n (i := 0) C dX5_then_16 rfl h17
    have h13 := zs_vV C dX5_then_13 (m_X5_take N) zw_723 ⟨Nat.le_of_ble_eq_true rfl, Nat.le_of_ble_eq_true rfl⟩ h16
    have h12 := zs_aload_n (i := 0) C dX5_then_12 rfl h13
    have h11 := zs_iret C dX5_then_11
    have h10 := zs_iconst (v := (-1)) C dX5_then_10 (by decide) h11
    have h7 := zs_if_ne (tgt := 12) C dX5_then_7 (by decide) h12 h10
    have h4 := zs_sI C dX5_then_4 (m_X5_in N) zw_603 ⟨Nat.le_of_ble_eq_true rfl, Nat.le_of_ble_eq_true rfl⟩ h7
    have h2 := zs_bipush (v := 60) C dX5_then_2 (by decide) h4
    have h1 := zs_iconst (v := 0) C dX5_then_1 (by decide) h2
    have h0 := zs_iload_n (i := 1) C dX5_then_0 rfl h1
    exact h0
  case hG =>
    intro as μ r h
    obtain ⟨x0, x1, rfl, h⟩ := g_X5_then_i h
    exact ⟨Nat.le_of_ble_eq_true rfl, h⟩
theorem m_X5_then (N : Nat) : zk_MV yX5_then cX5_then 2 (some .int) ({ frames := 8, cells := 0, slots := 0, locals := 177 } : Room) zq_I (g_X5_then N) 1 5 := ⟨c_X5_then N, zw_738, zw_736, zw_737, zw_31, rfl, rfl, by decide +kernel, by decide, ⟨TX5, 18, rfl⟩, fun as μ r h => by obtain ⟨x0, x1, rfl, -⟩ := g_X5_then_i h; exact ⟨_, _, rfl⟩⟩
-- LongestWedModel.rises(II)I
def f_X5_rises_L32 (N : Nat) : Nat → Nat → Int32 → Int32 → Int32 → Int32 → Int32 → ZM → Option (Int32 × ZM)
  | 0, _, _, _, _, _, _, _ => none
  | n + 1, x0, x1, x2, x3, x4, x5, μ =>
    if (60 : Int32) < x5 then
      if ¬ x2 = 0 then
        some (x4, μ)
      else
        some (x3, μ)
    else
      (f_X5_keysOf N (x0 + 2) μ).bind fun r1 =>
      let j55 : Int32 → Option (Int32 × ZM) := fun b2 =>
        let j74 : Int32 → Option (Int32 × ZM) := fun b3 =>
          let j87 : Int32 → Option (Int32 × ZM) := fun b4 =>
            (f_X5_passOn N x0 (x0 + 2) r1.2).bind fun r5 =>
            f_X5_rises_L32 N n x0 x1 x2 b3 (x4 + b4) (x5 + 1) r5
          if b2 = 0 then
            j87 0
          else
            j87 1
        let j73 : Unit → Option (Int32 × ZM) := fun u6 =>
          j74 x3
        if b2 = 0 then
          j73 ()
        else
          if ¬ x3 = (-4 : Int32) then
            j73 ()
          else
            j74 x5
      if ¬ r1.1 = x1 then
        j55 0
      else
        j55 1
def k_X5_rises_L32 (N n : Nat) : ZK (Int32 × ZM) := fun L st μ => match L, st with
  | [some (.inr (.inr (5, x0))), some (.inl x1), some (.inl x2), some (.inl x3), some (.inl x4), some (.inl x5), _], [] => f_X5_rises_L32 N n x0 x1 x2 x3 x4 x5 μ
  | _, _ => none
theorem k_X5_rises_L32_i {N : Nat} {n : Nat} {L : ZL} {st : List ZV} {μ : ZM} {r : Int32 × ZM} (h : k_X5_rises_L32 N n L st μ = some r) : ∃ (x0 : Nat) (x1 : Int32) (x2 : Int32) (x3 : Int32) (x4 : Int32) (x5 : Int32) (u6 : Option ZV), L = [some (.inr (.inr (5, x0))), some (.inl x1), some (.inl x2), some (.inl x3), some (.inl x4), some (.inl x5), u6] ∧ st = [] ∧ f_X5_rises_L32 N n x0 x1 x2 x3 x4 x5 μ = some r := by
  unfold k_X5_rises_L32 at h
  split at h
  · exact ⟨_, _, _, _, _, _, _, rfl, rfl, h⟩
  · cases h
set_option maxRecDepth 100000 in
theorem s_X5_rises_L32 (N : Nat) {X : ZX} {E : ZE} (C : zk_X X E RX5 cX5_rises 7 (some .int) ({ frames := 7, cells := 0, slots := 0, locals := 155 } : Room)) : ∀ n, zk_S X E 7 zq_I 32 (k_X5_rises_L32 N n) := by
  intro n
  induction n with
  | zero =>
    intro H locs ls L st μ r h hL hst hW hS
    obtain ⟨x0, x1, x2, x3, x4, x5, u6, rfl, rfl, h⟩ := k_X5_rises_L32_i h
    exact nomatch (show none = some r from h)
  | succ n ih =>
    have h114 := zs_iret C dX5_rises_114
    have h112 := zs_iload (i := 4) C dX5_rises_112 h114
    have h109 := zs_goto (tgt := 114) C dX5_rises_109 (by decide) h114
    have h108 := zs_iload_n (i := 3) C dX5_rises_108 rfl h109
    have h105 := zs_if_ne (tgt := 112) C dX5_rises_105 (by decide) h112 h108
    have h104 := zs_iload_n (i := 2) C dX5_rises_104 rfl h105
    have h101 := zs_goto (tgt := 32) C dX5_rises_101 (by decide) ih
    have h98 := zs_iinc (n := 1) C dX5_rises_98 (by decide) h101
    have h95 := zs_vV C dX5_rises_95 (m_X5_passOn N) zw_678 ⟨Nat.le_of_ble_eq_true rfl, Nat.le_of_ble_eq_true rfl⟩ h98
    have h92 := zs_gR C dX5_rises_92 zf_5_1 zw_544 h95
    have h91 := zs_aload_n (i := 0) C dX5_rises_91 rfl h92
    have h90 := zs_aload_n (i := 0) C dX5_rises_90 rfl h91
    have h88 := zs_istore (i := 4) C dX5_rises_88 h90
    have h87 := zs_iadd C dX5_rises_87 h88
    have h86 := zs_iconst (v := 0) C dX5_rises_86 (by decide) h87
    have h83 := zs_goto (tgt := 87) C dX5_rises_83 (by decide) h87
    have h82 := zs_iconst (v := 1) C dX5_rises_82 (by decide) h83
    have h79 := zs_if_eq (tgt := 86) C dX5_rises_79 (by decide) h86 h82
    have h77 := zs_iload (i := 6) C dX5_rises_77 h79
    have h75 := zs_iload (i := 4) C dX5_rises_75 h77
    have h74 := zs_istore_n (i := 3) C dX5_rises_74 rfl h75
    have h73 := zs_iload_n (i := 3) C dX5_rises_73 rfl h74
    have h70 := zs_goto (tgt := 74) C dX5_rises_70 (by decide) h74
    have h68 := zs_iload (i := 5) C dX5_rises_68 h70
    have h65 := zs_icmp_ne (tgt := 73) C dX5_rises_65 (by decide) h73 h68
    have h63 := zs_bipush (v := (-4)) C dX5_rises_63 (by decide) h65
    have h62 := zs_iload_n (i := 3) C dX5_rises_62 rfl h63
    have h59 := zs_if_eq (tgt := 73) C dX5_rises_59 (by decide) h73 h62
    have h57 := zs_iload (i := 6) C dX5_rises_57 h59
    have h55 := zs_istore (i := 6) C dX5_rises_55 h57
    have h54 := zs_iconst (v := 0) C dX5_rises_54 (by decide) h55
    have h51 := zs_goto (tgt := 55) C dX5_rises_51 (by decide) h55
    have h50 := zs_iconst (v := 1) C dX5_rises_50 (by decide) h51
    have h47 := zs_icmp_ne (tgt := 54) C dX5_rises_47 (by decide) h54 h50
    have h46 := zs_iload_n (i := 1) C dX5_rises_46 rfl h47
    have h43 := zs_sI C dX5_rises_43 (m_X5_keysOf N) zw_626 ⟨Nat.le_of_ble_eq_true rfl, Nat.le_of_ble_eq_true rfl⟩ h46
    have h40 := zs_gR C dX5_rises_40 zf_5_1 zw_544 h43
    have h39 := zs_aload_n (i := 0) C dX5_rises_39 rfl h40
    have h36 := zs_icmp_gt (tgt := 104) C dX5_rises_36 (by decide) h104 h39
    have h34 := zs_bipush (v := 60) C dX5_rises_34 (by decide) h36
    have h32 := zs_iload (i := 5) C dX5_rises_32 h34
    intro H locs ls L st μ r h hL hst hW hS
    obtain ⟨x0, x1, x2, x3, x4, x5, u6, rfl, rfl, h⟩ := k_X5_rises_L32_i h
    exact h32 H locs ls [some (.inr (.inr (5, x0))), some (.inl x1), some (.inl x2), some (.inl x3), some (.inl x4), some (.inl x5), none] [] μ r h (hL.less ⟨rfl, rfl, rfl, rfl, rfl, rfl, trivial⟩) hst hW hS
def f_X5_rises (N : Nat) (x0 : Nat) (x1 : Int32) (x2 : Int32) (μ : ZM) : Option (Int32 × ZM) :=
  (f_X5_isCouple N x0 x1 μ).bind fun r1 =>
  if r1.1 = 0 then
    some ((-1), r1.2)
  else
    (f_X5_in N x2 0 1 r1.2).bind fun r2 =>
    if ¬ r2.1 = 0 then
      (f_X5_take N x0 r2.2).bind fun r3 =>
      f_X5_rises_L32 N N x0 x1 x2 (-4) 0 0 r3
    else
      some ((-1), r2.2)
def g_X5_rises (N : Nat) (as : List ZV) (μ : ZM) : Option (Int32 × ZM) := match as with
  | [.inr (.inr (5, x0)), .inl x1, .inl x2] => f_X5_rises N x0 x1 x2 μ
  | _ => none
theorem g_X5_rises_i {N : Nat} {as : List ZV} {μ : ZM} {r : Int32 × ZM} (h : g_X5_rises N as μ = some r) : ∃ (x0 : Nat) (x1 : Int32) (x2 : Int32), as = [.inr (.inr (5, x0)), .inl x1, .inl x2] ∧ f_X5_rises N x0 x1 x2 μ = some r := by
  unfold g_X5_rises at h
  split at h
  · exact ⟨_, _, _, rfl, h⟩
  · cases h
set_option maxRecDepth 100000 in
theorem c_X5_rises (N : Nat) : zk_C yX5_rises cX5_rises 7 (some .int) ({ frames := 7, cells := 0, slots := 0, locals := 155 } : Room) zq_I (g_X5_rises N) := by
  refine zk_met ?κ (by decide +kernel) ?hG ?body
  case body =>
    intro X E C
    have C : zk_X X E RX5 cX5_rises 7 (some .int) ({ frames := 7, cells := 0, slots := 0, locals := 155 } : Room) := C
    have e32 := s_X5_rises_L32 N C N
    have h30 := zs_istore (i := 5) C dX5_rises_30 e32
    have h29 := zs_iconst (v := 0) C dX5_rises_29 (by decide) h30
    have h27 := zs_istore (i := 4) C dX5_rises_27 h29
    have h26 := zs_iconst (v := 0) C dX5_rises_26 (by decide) h27
    have h25 := zs_istore_n (i := 3) C dX5_rises_25 rfl h26
    have h23 := zs_bipush (v := (-4)) C dX5_rises_23 (by decide) h25
    have h20 := zs_vV C dX5_rises_20 (m_X5_take N) zw_723 ⟨Nat.le_of_ble_eq_true rfl, Nat.le_of_ble_eq_true rfl⟩ h23
    have h19 := zs_aload_n (i := 0) C dX5_rises_19 rfl h20
    have h18 := zs_iret C dX5_rises_18
    have h17 := zs_iconst (v := (-1)) C dX5_rises_17 (by decide) h18
    have h14 := zs_if_ne (tgt := 19) C dX5_rises_14 (by decide) h19 h17
    have h11 := zs_sI C dX5_rises_11 (m_X5_in N) zw_603 ⟨Nat.le_of_ble_eq_true rfl, Nat.le_of_ble_eq_true rfl⟩ h14
    have h10 := zs_iconst (v := 1) C dX5_rises_10 (by decide) h11
    have h9 := zs_iconst (v := 0) C dX5_rises_9 (by decide) h10
    have h8 := zs_iload_n (i := 2) C dX5_rises_8 rfl h9
    have h5 := zs_if_eq (tgt := 17) C dX5_rises_5 (by decide) h17 h8
    have h2 := zs_vI C dX5_rises_2 (m_X5_isCouple N) zw_613 ⟨Nat.le_of_ble_eq_true rfl, Nat.le_of_ble_eq_true rfl⟩ h5
    have h1 := zs_iload_n (i := 1) C dX5_rises_1 rfl h2
    have h0 := zs_aload_n (i := 0) C dX5_rises_0 rfl h1
    exact h0
  case hG =>
    intro as μ r h
    obtain ⟨x0, x1, x2, rfl, h⟩ := g_X5_rises_i h
    exact ⟨Nat.le_of_ble_eq_true rfl, h⟩
theorem m_X5_rises (N : Nat) : zk_MV yX5_rises cX5_rises 7 (some .int) ({ frames := 7, cells := 0, slots := 0, locals := 155 } : Room) zq_I (g_X5_rises N) 2 5 := ⟨c_X5_rises N, zw_742, zw_740, zw_741, zw_31, rfl, rfl, by decide +kernel, by decide, ⟨TX5, 18, rfl⟩, fun as μ r h => by obtain ⟨x0, x1, x2, rfl, -⟩ := g_X5_rises_i h; exact ⟨_, _, rfl⟩⟩
-- LongestWedModel.parts(I)I
def f_X5_parts_L16 (N : Nat) : Nat → Nat → Int32 → Int32 → ZM → Option (Int32 × ZM)
  | 0, _, _, _, _ => none
  | n + 1, x0, x1, x2, μ =>
    if (60 : Int32) < x2 then
      some ((-4), μ)
    else
      (f_X5_isParted N (x0 + 1) x1 μ).bind fun r1 =>
      if ¬ r1.1 = 0 then
        some ((-4), r1.2)
      else
        (f_X5_passOn N x0 (x0 + 2) r1.2).bind fun r2 =>
        (f_X5_isParted N (x0 + 2) x1 r2).bind fun r3 =>
        if r3.1 = 0 then
          f_X5_parts_L16 N n x0 x1 (x2 + 1) r3.2
        else
          some (x2, r3.2)
def k_X5_parts_L16 (N n : Nat) : ZK (Int32 × ZM) := fun L st μ => match L, st with
  | [some (.inr (.inr (5, x0))), some (.inl x1), some (.inl x2)], [] => f_X5_parts_L16 N n x0 x1 x2 μ
  | _, _ => none
theorem k_X5_parts_L16_i {N : Nat} {n : Nat} {L : ZL} {st : List ZV} {μ : ZM} {r : Int32 × ZM} (h : k_X5_parts_L16 N n L st μ = some r) : ∃ (x0 : Nat) (x1 : Int32) (x2 : Int32), L = [some (.inr (.inr (5, x0))), some (.inl x1), some (.inl x2)] ∧ st = [] ∧ f_X5_parts_L16 N n x0 x1 x2 μ = some r := by
  unfold k_X5_parts_L16 at h
  split at h
  · exact ⟨_, _, _, rfl, rfl, h⟩
  · cases h
set_option maxRecDepth 100000 in
theorem s_X5_parts_L16 (N : Nat) {X : ZX} {E : ZE} (C : zk_X X E RX5 cX5_parts 3 (some .int) ({ frames := 7, cells := 0, slots := 0, locals := 155 } : Room)) : ∀ n, zk_S X E 3 zq_I 16 (k_X5_parts_L16 N n) := by
  intro n
  induction n with
  | zero =>
    intro H locs ls L st μ r h hL hst hW hS
    obtain ⟨x0, x1, x2, rfl, rfl, h⟩ := k_X5_parts_L16_i h
    exact nomatch (show none = some r from h)
  | succ n ih =>
    have h62 := zs_iret C dX5_parts_62
    have h60 := zs_bipush (v := (-4)) C dX5_parts_60 (by decide) h62
    have h57 := zs_goto (tgt := 16) C dX5_parts_57 (by decide) ih
    have h54 := zs_iinc (n := 1) C dX5_parts_54 (by decide) h57
    have h53 := zs_iret C dX5_parts_53
    have h52 := zs_iload_n (i := 2) C dX5_parts_52 rfl h53
    have h49 := zs_if_eq (tgt := 54) C dX5_parts_49 (by decide) h54 h52
    have h46 := zs_sI C dX5_parts_46 (m_X5_isParted N) zw_617 ⟨Nat.le_of_ble_eq_true rfl, Nat.le_of_ble_eq_true rfl⟩ h49
    have h45 := zs_iload_n (i := 1) C dX5_parts_45 rfl h46
    have h42 := zs_gR C dX5_parts_42 zf_5_1 zw_544 h45
    have h41 := zs_aload_n (i := 0) C dX5_parts_41 rfl h42
    have h38 := zs_vV C dX5_parts_38 (m_X5_passOn N) zw_678 ⟨Nat.le_of_ble_eq_true rfl, Nat.le_of_ble_eq_true rfl⟩ h41
    have h35 := zs_gR C dX5_parts_35 zf_5_1 zw_544 h38
    have h34 := zs_aload_n (i := 0) C dX5_parts_34 rfl h35
    have h33 := zs_aload_n (i := 0) C dX5_parts_33 rfl h34
    have h30 := zs_if_ne (tgt := 60) C dX5_parts_30 (by decide) h60 h33
    have h27 := zs_sI C dX5_parts_27 (m_X5_isParted N) zw_617 ⟨Nat.le_of_ble_eq_true rfl, Nat.le_of_ble_eq_true rfl⟩ h30
    have h26 := zs_iload_n (i := 1) C dX5_parts_26 rfl h27
    have h23 := zs_gR C dX5_parts_23 zf_5_0 zw_543 h26
    have h22 := zs_aload_n (i := 0) C dX5_parts_22 rfl h23
    have h19 := zs_icmp_gt (tgt := 60) C dX5_parts_19 (by decide) h60 h22
    have h17 := zs_bipush (v := 60) C dX5_parts_17 (by decide) h19
    have h16 := zs_iload_n (i := 2) C dX5_parts_16 rfl h17
    intro H locs ls L st μ r h hL hst hW hS
    obtain ⟨x0, x1, x2, rfl, rfl, h⟩ := k_X5_parts_L16_i h
    exact h16 H locs ls [some (.inr (.inr (5, x0))), some (.inl x1), some (.inl x2)] [] μ r h (hL.less ⟨rfl, rfl, rfl, trivial⟩) hst hW hS
def f_X5_parts (N : Nat) (x0 : Nat) (x1 : Int32) (μ : ZM) : Option (Int32 × ZM) :=
  (f_X5_isCouple N x0 x1 μ).bind fun r1 =>
  if ¬ r1.1 = 0 then
    (f_X5_take N x0 r1.2).bind fun r2 =>
    f_X5_parts_L16 N N x0 x1 1 r2
  else
    some ((-1), r1.2)
def g_X5_parts (N : Nat) (as : List ZV) (μ : ZM) : Option (Int32 × ZM) := match as with
  | [.inr (.inr (5, x0)), .inl x1] => f_X5_parts N x0 x1 μ
  | _ => none
theorem g_X5_parts_i {N : Nat} {as : List ZV} {μ : ZM} {r : Int32 × ZM} (h : g_X5_parts N as μ = some r) : ∃ (x0 : Nat) (x1 : Int32), as = [.inr (.inr (5, x0)), .inl x1] ∧ f_X5_parts N x0 x1 μ = some r := by
  unfold g_X5_parts at h
  split at h
  · exact ⟨_, _, rfl, h⟩
  · cases h
set_option maxRecDepth 100000 in
theorem c_X5_parts (N : Nat) : zk_C yX5_parts cX5_parts 3 (some .int) ({ frames := 7, cells := 0, slots := 0, locals := 155 } : Room) zq_I (g_X5_parts N) := by
  refine zk_met ?κ (by decide +kernel) ?hG ?body
  case body =>
    intro X E C
    have C : zk_X X E RX5 cX5_parts 3 (some .int) ({ frames := 7, cells := 0, slots := 0, locals := 155 } : Room) := C
    have e16 := s_X5_parts_L16 N C N
    have h15 := zs_istore_n (i := 2) C dX5_parts_15 rfl e16
    have h14 := zs_iconst (v := 1) C dX5_parts_14 (by decide) h15
    have h11 := zs_vV C dX5_parts_11 (m_X5_take N) zw_723 ⟨Nat.le_of_ble_eq_true rfl, Nat.le_of_ble_eq_true rfl⟩ h14
    have h10 := zs_aload_n (i := 0) C dX5_parts_10 rfl h11
    have h9 := zs_iret C dX5_parts_9
    have h8 := zs_iconst (v := (-1)) C dX5_parts_8 (by decide) h9
    have h5 := zs_if_ne (tgt := 10) C dX5_parts_5 (by decide) h10 h8
    have h2 := zs_vI C dX5_parts_2 (m_X5_isCouple N) zw_613 ⟨Nat.le_of_ble_eq_true rfl, Nat.le_of_ble_eq_true rfl⟩ h5
    have h1 := zs_iload_n (i := 1) C dX5_parts_1 rfl h2
    have h0 := zs_aload_n (i := 0) C dX5_parts_0 rfl h1
    exact h0
  case hG =>
    intro as μ r h
    obtain ⟨x0, x1, rfl, h⟩ := g_X5_parts_i h
    exact ⟨Nat.le_of_ble_eq_true rfl, h⟩
theorem m_X5_parts (N : Nat) : zk_MV yX5_parts cX5_parts 3 (some .int) ({ frames := 7, cells := 0, slots := 0, locals := 155 } : Room) zq_I (g_X5_parts N) 1 5 := ⟨c_X5_parts N, zw_746, zw_744, zw_745, zw_31, rfl, rfl, by decide +kernel, by decide, ⟨TX5, 18, rfl⟩, fun as μ r h => by obtain ⟨x0, x1, rfl, -⟩ := g_X5_parts_i h; exact ⟨_, _, rfl⟩⟩
-- LongestWedModel.ever()I
def f_X5_ever_L8 (N : Nat) : Nat → Nat → Int32 → Int32 → ZM → Option (Int32 × ZM)
  | 0, _, _, _, _ => none
  | n + 1, x0, x1, x2, μ =>
    if (60 : Int32) < x2 then
      some (x1, μ)
    else
      (f_X5_keysOf N (x0 + 2) μ).bind fun r1 =>
      let j36 : Int32 → Option (Int32 × ZM) := fun b2 =>
        (f_X5_passOn N x0 (x0 + 2) r1.2).bind fun r3 =>
        f_X5_ever_L8 N n x0 (x1 ||| b2) (x2 + 1) r3
      if ¬ r1.1 = (-4 : Int32) then
        j36 (1 <<< (r1.1 &&& 31))
      else
        j36 0
def k_X5_ever_L8 (N n : Nat) : ZK (Int32 × ZM) := fun L st μ => match L, st with
  | [some (.inr (.inr (5, x0))), some (.inl x1), some (.inl x2), _], [] => f_X5_ever_L8 N n x0 x1 x2 μ
  | _, _ => none
theorem k_X5_ever_L8_i {N : Nat} {n : Nat} {L : ZL} {st : List ZV} {μ : ZM} {r : Int32 × ZM} (h : k_X5_ever_L8 N n L st μ = some r) : ∃ (x0 : Nat) (x1 : Int32) (x2 : Int32) (u3 : Option ZV), L = [some (.inr (.inr (5, x0))), some (.inl x1), some (.inl x2), u3] ∧ st = [] ∧ f_X5_ever_L8 N n x0 x1 x2 μ = some r := by
  unfold k_X5_ever_L8 at h
  split at h
  · exact ⟨_, _, _, _, rfl, rfl, h⟩
  · cases h
set_option maxRecDepth 100000 in
theorem s_X5_ever_L8 (N : Nat) {X : ZX} {E : ZE} (C : zk_X X E RX5 cX5_ever 4 (some .int) ({ frames := 7, cells := 0, slots := 0, locals := 155 } : Room)) : ∀ n, zk_S X E 4 zq_I 8 (k_X5_ever_L8 N n) := by
  intro n
  induction n with
  | zero =>
    intro H locs ls L st μ r h hL hst hW hS
    obtain ⟨x0, x1, x2, u3, rfl, rfl, h⟩ := k_X5_ever_L8_i h
    exact nomatch (show none = some r from h)
  | succ n ih =>
    have h53 := zs_iret C dX5_ever_53
    have h52 := zs_iload_n (i := 1) C dX5_ever_52 rfl h53
    have h49 := zs_goto (tgt := 8) C dX5_ever_49 (by decide) ih
    have h46 := zs_iinc (n := 1) C dX5_ever_46 (by decide) h49
    have h43 := zs_vV C dX5_ever_43 (m_X5_passOn N) zw_678 ⟨Nat.le_of_ble_eq_true rfl, Nat.le_of_ble_eq_true rfl⟩ h46
    have h40 := zs_gR C dX5_ever_40 zf_5_1 zw_544 h43
    have h39 := zs_aload_n (i := 0) C dX5_ever_39 rfl h40
    have h38 := zs_aload_n (i := 0) C dX5_ever_38 rfl h39
    have h37 := zs_istore_n (i := 1) C dX5_ever_37 rfl h38
    have h36 := zs_ior C dX5_ever_36 h37
    have h35 := zs_ishl C dX5_ever_35 h36
    have h34 := zs_iload_n (i := 3) C dX5_ever_34 rfl h35
    have h33 := zs_iconst (v := 1) C dX5_ever_33 (by decide) h34
    have h30 := zs_goto (tgt := 36) C dX5_ever_30 (by decide) h36
    have h29 := zs_iconst (v := 0) C dX5_ever_29 (by decide) h30
    have h26 := zs_icmp_ne (tgt := 33) C dX5_ever_26 (by decide) h33 h29
    have h24 := zs_bipush (v := (-4)) C dX5_ever_24 (by decide) h26
    have h23 := zs_iload_n (i := 3) C dX5_ever_23 rfl h24
    have h22 := zs_iload_n (i := 1) C dX5_ever_22 rfl h23
    have h21 := zs_istore_n (i := 3) C dX5_ever_21 rfl h22
    have h18 := zs_sI C dX5_ever_18 (m_X5_keysOf N) zw_626 ⟨Nat.le_of_ble_eq_true rfl, Nat.le_of_ble_eq_true rfl⟩ h21
    have h15 := zs_gR C dX5_ever_15 zf_5_1 zw_544 h18
    have h14 := zs_aload_n (i := 0) C dX5_ever_14 rfl h15
    have h11 := zs_icmp_gt (tgt := 52) C dX5_ever_11 (by decide) h52 h14
    have h9 := zs_bipush (v := 60) C dX5_ever_9 (by decide) h11
    have h8 := zs_iload_n (i := 2) C dX5_ever_8 rfl h9
    intro H locs ls L st μ r h hL hst hW hS
    obtain ⟨x0, x1, x2, u3, rfl, rfl, h⟩ := k_X5_ever_L8_i h
    exact h8 H locs ls [some (.inr (.inr (5, x0))), some (.inl x1), some (.inl x2), none] [] μ r h (hL.less ⟨rfl, rfl, rfl, trivial⟩) hst hW hS
def f_X5_ever (N : Nat) (x0 : Nat) (μ : ZM) : Option (Int32 × ZM) :=
  (f_X5_take N x0 μ).bind fun r1 =>
  f_X5_ever_L8 N N x0 0 0 r1
def g_X5_ever (N : Nat) (as : List ZV) (μ : ZM) : Option (Int32 × ZM) := match as with
  | [.inr (.inr (5, x0))] => f_X5_ever N x0 μ
  | _ => none
theorem g_X5_ever_i {N : Nat} {as : List ZV} {μ : ZM} {r : Int32 × ZM} (h : g_X5_ever N as μ = some r) : ∃ (x0 : Nat), as = [.inr (.inr (5, x0))] ∧ f_X5_ever N x0 μ = some r := by
  unfold g_X5_ever at h
  split at h
  · exact ⟨_, rfl, h⟩
  · cases h
set_option maxRecDepth 100000 in
theorem c_X5_ever (N : Nat) : zk_C yX5_ever cX5_ever 4 (some .int) ({ frames := 7, cells := 0, slots := 0, locals := 155 } : Room) zq_I (g_X5_ever N) := by
  refine zk_met ?κ (by decide +kernel) ?hG ?body
  case body =>
    intro X E C
    have C : zk_X X E RX5 cX5_ever 4 (some .int) ({ frames := 7, cells := 0, slots := 0, locals := 155 } : Room) := C
    have e8 := s_X5_ever_L8 N C N
    have h7 := zs_istore_n (i := 2) C dX5_ever_7 rfl e8
    have h6 := zs_iconst (v := 0) C dX5_ever_6 (by decide) h7
    have h5 := zs_istore_n (i := 1) C dX5_ever_5 rfl h6
    have h4 := zs_iconst (v := 0) C dX5_ever_4 (by decide) h5
    have h1 := zs_vV C dX5_ever_1 (m_X5_take N) zw_723 ⟨Nat.le_of_ble_eq_true rfl, Nat.le_of_ble_eq_true rfl⟩ h4
    have h0 := zs_aload_n (i := 0) C dX5_ever_0 rfl h1
    exact h0
  case hG =>
    intro as μ r h
    obtain ⟨x0, rfl, h⟩ := g_X5_ever_i h
    exact ⟨Nat.le_of_ble_eq_true rfl, h⟩
theorem m_X5_ever (N : Nat) : zk_MV yX5_ever cX5_ever 4 (some .int) ({ frames := 7, cells := 0, slots := 0, locals := 155 } : Room) zq_I (g_X5_ever N) 0 5 := ⟨c_X5_ever N, zw_750, zw_748, zw_749, zw_31, rfl, rfl, by decide +kernel, by decide, ⟨TX5, 18, rfl⟩, fun as μ r h => by obtain ⟨x0, rfl, -⟩ := g_X5_ever_i h; exact ⟨_, _, rfl⟩⟩
