def zk_sz (st : List ZV) : Nat := (st.map zk_ct).sum
theorem zk_sz_c (ad : Nat → Nat) (st : List ZV) : ((st.map (zk_c ad)).map fun v => v.category).sum = zk_sz st := by
  unfold zk_sz
  rw [List.map_map]
  congr 1
  apply List.map_congr_left
  intro v _
  exact zk_ct_c ad v
/-- a field of a class: the tables' words of the class, its place, what it is -/
def zk_fd (ci j : Nat) (Cn : String) (T : u_T) (N : Nat) (ty : Nat → FieldType) (o : Option (Nat × Nat)) : Prop := ci < 1000 ∧ vwCl[ci]? = some (Cn, T, N) ∧ (∀ w ∈ u_ws Cn T N, w ∈ zk_T) ∧ j < N ∧ (zk_fl ci)[j]? = some o ∧ (∀ k, k < N → parseFieldDescriptor (T k).2.2.1 = some (ty k)) ∧ (∀ a, a < N → ∀ b, b < N → a ≠ b → (T a).2.1 ≠ (T b).2.1)
theorem zk_ok_fl {shp : List Nat} (h : zk_okB shp = true) {k kd j : Nat} {q : Nat × Nat} (hk : shp[k]? = some kd) (hj : (zk_fl kd)[j]? = some (some q)) : shp[k + q.2]? = some q.1 := by
  have h1 := List.all_eq_true.mp h k (List.mem_range.mpr (List.getElem?_eq_some_iff.mp hk).1)
  simp only [hk, Bool.and_eq_true] at h1
  have h2 := List.all_eq_true.mp h1.1.1 _ (List.mem_of_getElem? hj)
  simpa using h2
theorem zk_ok_t {shp : List Nat} (h : zk_okB shp = true) {k i : Nat} (hk : shp[k]? = some 4008) (hi : i < 8) : shp[k + 1 + 5 * i]? = some 3 := by
  have h1 := List.all_eq_true.mp h k (List.mem_range.mpr (List.getElem?_eq_some_iff.mp hk).1)
  simp only [hk, Bool.and_eq_true] at h1
  have h2 := h1.1.2
  simp only [bne_self_eq_false, Bool.false_or] at h2
  have h3 := List.all_eq_true.mp h2 i (List.mem_range.mpr hi)
  simpa using h3
theorem zk_ok_s {shp : List Nat} (h : zk_okB shp = true) {k i : Nat} (hk : shp[k]? = some 5004) (hi : i < 4) : shp[k + 6 + 2 * i]? = some 1 := by
  have h1 := List.all_eq_true.mp h k (List.mem_range.mpr (List.getElem?_eq_some_iff.mp hk).1)
  simp only [hk, Bool.and_eq_true] at h1
  have h2 := h1.2
  simp only [bne_self_eq_false, Bool.false_or] at h2
  have h3 := List.all_eq_true.mp h2 i (List.mem_range.mpr hi)
  simpa using h3
theorem zk_Eo {E : ZE} {μ : ZM} {k kd : Nat} (h : kd < 1000) : zk_E E μ k kd = .inr (kd, zk_fs E.1 μ k kd) := by simp [zk_E, h]
theorem zk_Ei {E : ZE} {μ : ZM} {k n : Nat} (h : n < 1000) : zk_E E μ k (1000 + n) = .inl (E.2.2.1 1, n, .inl (μ.1 k)) := by
  rw [zk_E, if_neg (by omega), if_pos (by omega), Nat.add_sub_cancel_left]
theorem zk_Eb {E : ZE} {μ : ZM} {k n : Nat} (h : n < 1000) : zk_E E μ k (2000 + n) = .inl (E.2.2.1 2, n, .inl (μ.1 k)) := by
  rw [zk_E, if_neg (by omega), if_neg (by omega), if_pos (by omega), Nat.add_sub_cancel_left]
theorem zk_El {E : ZE} {μ : ZM} {k n : Nat} (h : n < 1000) : zk_E E μ k (3000 + n) = .inl (E.2.2.1 3, n, .inr (.inl (μ.2 k))) := by
  rw [zk_E, if_neg (by omega), if_neg (by omega), if_neg (by omega), if_pos (by omega), Nat.add_sub_cancel_left]

def zi_gI {ρ : Type} (ci j : Nat) (κ : ZK ρ) : ZK ρ := fun L st μ => match st with
  | .inr (.inr w) :: st => if w.1 = ci then κ L (.inl (μ.1 w.2 j) :: st) μ else none
  | _ => none
def zi_gR {ρ : Type} (ci kd off : Nat) (κ : ZK ρ) : ZK ρ := fun L st μ => match st with
  | .inr (.inr w) :: st => if w.1 = ci then κ L (.inr (.inr (kd, w.2 + off)) :: st) μ else none
  | _ => none
theorem zs_gI {X : ZX} {E : ZE} {own : String} {cc : ByteArray} {nL : Nat} {ret : Option FieldType} {rm : Room} {ρ : Type} {q : ρ → ZR} {pc : Nat} {κ : ZK ρ} {ci j idx : Nat} {Cn : String} {T : u_T} {N : Nat} {ty : Nat → FieldType} (C : zk_X X E own cc nL ret rm) (hd : decode cc pc = .ok (.getfield idx, 3)) (F : zk_fd ci j Cn T N ty none) (hl : Cond.fieldLink own idx (T j).1 (T j).2.1 (T j).2.2.1 ∈ zk_T) (hk : zk_S X E nL q (pc + 3) κ) : zk_S X E nL q (pc) (zi_gI ci j κ) := by
  obtain ⟨p, l, e, R, s, m, args, below, meth, c⟩ := X
  obtain ⟨hx, hb, hml, hown, hts, hK, hlk, hrt, hok, hR⟩ := C
  intro H locs ls L st μ r h hL hst hW hS
  obtain ⟨f0, f1, f2, f3, f4, f5, f6⟩ := F
  unfold zi_gI at h
  split at h
  · rename_i w st
    obtain ⟨kd1, k⟩ := w
    by_cases hc : kd1 = ci
    · rw [if_pos hc] at h
      subst hc
      have hk1 : E.2.2.2.1[k]? = some kd1 := zk_whd hst
      have he := zk_at μ hk1
      rw [zk_Eo f0] at he
      exact va_get (D := E.2.1) (cl := vwCl) (a := E.1 k) (ws := zk_ws E μ) hx hb hts f2 hown hK hW.1 k he f1 j f3 (hts _ hl) (fun _ h9 => h9) (zk_fs_at f4) hd (hk H locs ls L (.inl (μ.1 k j) :: st) μ r h hL (zk_wcons (trivial) (zk_wtl hst)) hW hS)
    · rw [if_neg hc] at h; cases h
  · cases h
theorem zs_gR {X : ZX} {E : ZE} {own : String} {cc : ByteArray} {nL : Nat} {ret : Option FieldType} {rm : Room} {ρ : Type} {q : ρ → ZR} {pc : Nat} {κ : ZK ρ} {ci j idx kd off : Nat} {Cn : String} {T : u_T} {N : Nat} {ty : Nat → FieldType} (C : zk_X X E own cc nL ret rm) (hd : decode cc pc = .ok (.getfield idx, 3)) (F : zk_fd ci j Cn T N ty (some (kd, off))) (hl : Cond.fieldLink own idx (T j).1 (T j).2.1 (T j).2.2.1 ∈ zk_T) (hk : zk_S X E nL q (pc + 3) κ) : zk_S X E nL q (pc) (zi_gR ci kd off κ) := by
  obtain ⟨p, l, e, R, s, m, args, below, meth, c⟩ := X
  obtain ⟨hx, hb, hml, hown, hts, hK, hlk, hrt, hok, hR⟩ := C
  intro H locs ls L st μ r h hL hst hW hS
  obtain ⟨f0, f1, f2, f3, f4, f5, f6⟩ := F
  unfold zi_gR at h
  split at h
  · rename_i w st
    obtain ⟨kd1, k⟩ := w
    by_cases hc : kd1 = ci
    · rw [if_pos hc] at h
      subst hc
      have hk1 : E.2.2.2.1[k]? = some kd1 := zk_whd hst
      have he := zk_at μ hk1
      rw [zk_Eo f0] at he
      exact va_get (D := E.2.1) (cl := vwCl) (a := E.1 k) (ws := zk_ws E μ) hx hb hts f2 hown hK hW.1 k he f1 j f3 (hts _ hl) (fun _ h9 => h9) (zk_fs_at f4) hd (hk H locs ls L (.inr (.inr (kd, k + off)) :: st) μ r h hL (zk_wcons (zk_ok_fl hok hk1 f4) (zk_wtl hst)) hW hS)
    · rw [if_neg hc] at h; cases h
  · cases h
def zi_pI {ρ : Type} (ci j : Nat) (κ : ZK ρ) : ZK ρ := fun L st μ => match st with
  | .inl v :: .inr (.inr w) :: st => if w.1 = ci then κ L st (zk_si μ w.2 j v) else none
  | _ => none
def zi_pZ {ρ : Type} (ci j : Nat) (κ : ZK ρ) : ZK ρ := fun L st μ => match st with
  | .inl v :: .inr (.inr w) :: st => if w.1 = ci ∧ (v = 0 ∨ v = 1) then κ L st (zk_si μ w.2 j v) else none
  | _ => none
theorem zs_pI {X : ZX} {E : ZE} {own : String} {cc : ByteArray} {nL : Nat} {ret : Option FieldType} {rm : Room} {ρ : Type} {q : ρ → ZR} {pc : Nat} {κ : ZK ρ} {ci j idx : Nat} {Cn : String} {T : u_T} {N : Nat} {ty : Nat → FieldType} (C : zk_X X E own cc nL ret rm) (hd : decode cc pc = .ok (.putfield idx, 3)) (F : zk_fd ci j Cn T N ty none) (hl : Cond.fieldLink own idx (T j).1 (T j).2.1 (T j).2.2.1 ∈ zk_T) (hfi : (T j).2.2.2 = false) (hty : parseFieldDescriptor (T j).2.2.1 = some .int) (hk : zk_S X E nL q (pc + 3) κ) : zk_S X E nL q (pc) (zi_pI ci j κ) := by
  obtain ⟨p, l, e, R, s, m, args, below, meth, c⟩ := X
  obtain ⟨hx, hb, hml, hown, hts, hK, hlk, hrt, hok, hR⟩ := C
  intro H locs ls L st μ r h hL hst hW hS
  obtain ⟨f0, f1, f2, f3, f4, f5, f6⟩ := F
  unfold zi_pI at h
  split at h
  · rename_i v w st
    obtain ⟨kd1, k⟩ := w
    by_cases hc : kd1 = ci
    · rw [if_pos hc] at h
      obtain rfl : kd1 = ci := hc
      have hk1 : E.2.2.2.1[k]? = some kd1 := zk_whd (zk_wtl hst)
      have he := zk_at μ hk1
      rw [zk_Eo f0] at he
      refine va_put (D := E.2.1) (cl := vwCl) (a := E.1 k) (ws := zk_ws E μ) hx hb hts f2 ty f5 f6 hown hK hW.1 hW.2 hS k he f1 j f3 (hts _ hl) (fun _ h9 => h9) hfi (v := .int v) hty rfl rfl (by rw [zk_fs, List.length_mapIdx]; exact (List.getElem?_eq_some_iff.mp f4).1) hd (fun H1 locs1 hP1 hD1 hS1 => ?_)
      have e1 : (zk_ws E μ).set k (E.1 k, .inr (kd1, (zk_fs E.1 μ k kd1).set j (.int v))) = zk_ws E (zk_si μ k j v) := by
        rw [zk_fs_set f4, ← zk_Eo (E := E) f0]
        exact zk_set hk1 zk_si_o
      rw [e1] at hP1 hD1
      exact hk H1 locs1 ls L st _ r h hL (zk_wtl (zk_wtl hst)) ⟨hP1, hD1⟩ hS1
    · rw [if_neg hc] at h; cases h
  · cases h
theorem zs_pZ {X : ZX} {E : ZE} {own : String} {cc : ByteArray} {nL : Nat} {ret : Option FieldType} {rm : Room} {ρ : Type} {q : ρ → ZR} {pc : Nat} {κ : ZK ρ} {ci j idx : Nat} {Cn : String} {T : u_T} {N : Nat} {ty : Nat → FieldType} (C : zk_X X E own cc nL ret rm) (hd : decode cc pc = .ok (.putfield idx, 3)) (F : zk_fd ci j Cn T N ty none) (hl : Cond.fieldLink own idx (T j).1 (T j).2.1 (T j).2.2.1 ∈ zk_T) (hfi : (T j).2.2.2 = false) (hty : parseFieldDescriptor (T j).2.2.1 = some .boolean) (hk : zk_S X E nL q (pc + 3) κ) : zk_S X E nL q (pc) (zi_pZ ci j κ) := by
  obtain ⟨p, l, e, R, s, m, args, below, meth, c⟩ := X
  obtain ⟨hx, hb, hml, hown, hts, hK, hlk, hrt, hok, hR⟩ := C
  intro H locs ls L st μ r h hL hst hW hS
  obtain ⟨f0, f1, f2, f3, f4, f5, f6⟩ := F
  unfold zi_pZ at h
  split at h
  · rename_i v w st
    obtain ⟨kd1, k⟩ := w
    by_cases hc : kd1 = ci ∧ (v = 0 ∨ v = 1)
    · rw [if_pos hc] at h
      obtain rfl : kd1 = ci := hc.1
      have hk1 : E.2.2.2.1[k]? = some kd1 := zk_whd (zk_wtl hst)
      have he := zk_at μ hk1
      rw [zk_Eo f0] at he
      refine va_put (D := E.2.1) (cl := vwCl) (a := E.1 k) (ws := zk_ws E μ) hx hb hts f2 ty f5 f6 hown hK hW.1 hW.2 hS k he f1 j f3 (hts _ hl) (fun _ h9 => h9) hfi (v := .int v) hty (by rcases hc.2 with rfl | rfl <;> decide) (by rcases hc.2 with rfl | rfl <;> decide) (by rw [zk_fs, List.length_mapIdx]; exact (List.getElem?_eq_some_iff.mp f4).1) hd (fun H1 locs1 hP1 hD1 hS1 => ?_)
      have e1 : (zk_ws E μ).set k (E.1 k, .inr (kd1, (zk_fs E.1 μ k kd1).set j (.int v))) = zk_ws E (zk_si μ k j v) := by
        rw [zk_fs_set f4, ← zk_Eo (E := E) f0]
        exact zk_set hk1 zk_si_o
      rw [e1] at hP1 hD1
      exact hk H1 locs1 ls L st _ r h hL (zk_wtl (zk_wtl hst)) ⟨hP1, hD1⟩ hS1
    · rw [if_neg hc] at h; cases h
  · cases h
def zi_iald {ρ : Type} (n : Nat) (κ : ZK ρ) : ZK ρ := fun L st μ => match st with
  | .inl i :: .inr (.inr w) :: st => if w.1 = 1000 + n then (if zk_o i n = true then none else κ L (.inl (μ.1 w.2 i.toNatClampNeg) :: st) μ) else none
  | _ => none
theorem zs_iald {X : ZX} {E : ZE} {own : String} {cc : ByteArray} {nL : Nat} {ret : Option FieldType} {rm : Room} {ρ : Type} {q : ρ → ZR} {pc : Nat} {κ : ZK ρ} {n : Nat} (C : zk_X X E own cc nL ret rm) (hd : decode cc pc = .ok (.iaload, 1)) (hn : n < 1000) (hk : zk_S X E nL q (pc + 1) κ) : zk_S X E nL q (pc) (zi_iald n κ) := by
  obtain ⟨p, l, e, R, s, m, args, below, meth, c⟩ := X
  obtain ⟨hx, hb, hml, hown, hts, hK, hlk, hrt, hok, hR⟩ := C
  intro H locs ls L st μ r h hL hst hW hS
  unfold zi_iald at h
  split at h
  · rename_i i w st
    obtain ⟨kd1, k⟩ := w
    by_cases hc : kd1 = 1000 + n
    · rw [if_pos hc] at h
      by_cases hi : zk_o i n = true
      · rw [if_pos hi] at h; cases h
      · rw [if_neg hi] at h
        subst hc
        have hk1 : E.2.2.2.1[k]? = some (1000 + n) := zk_whd (zk_wtl hst)
        have he := zk_at μ hk1
        rw [zk_Ei hn] at he
        exact va_iald (D := E.2.1) (cl := vwCl) (a := E.1 k) (ws := zk_ws E μ) (tys := zk_ty E) hx hb hK hW.1 k 0 he rfl (zk_o_in hi) hd (hk H locs ls L (.inl (μ.1 k i.toNatClampNeg) :: st) μ r h hL (zk_wcons trivial (zk_wtl (zk_wtl hst))) hW hS)
    · rw [if_neg hc] at h; cases h
  · cases h
def zi_bald {ρ : Type} (n : Nat) (κ : ZK ρ) : ZK ρ := fun L st μ => match st with
  | .inl i :: .inr (.inr w) :: st => if w.1 = 2000 + n then (if zk_o i n = true then none else κ L (.inl (μ.1 w.2 i.toNatClampNeg) :: st) μ) else none
  | _ => none
theorem zs_bald {X : ZX} {E : ZE} {own : String} {cc : ByteArray} {nL : Nat} {ret : Option FieldType} {rm : Room} {ρ : Type} {q : ρ → ZR} {pc : Nat} {κ : ZK ρ} {n : Nat} (C : zk_X X E own cc nL ret rm) (hd : decode cc pc = .ok (.baload, 1)) (hn : n < 1000) (hk : zk_S X E nL q (pc + 1) κ) : zk_S X E nL q (pc) (zi_bald n κ) := by
  obtain ⟨p, l, e, R, s, m, args, below, meth, c⟩ := X
  obtain ⟨hx, hb, hml, hown, hts, hK, hlk, hrt, hok, hR⟩ := C
  intro H locs ls L st μ r h hL hst hW hS
  unfold zi_bald at h
  split at h
  · rename_i i w st
    obtain ⟨kd1, k⟩ := w
    by_cases hc : kd1 = 2000 + n
    · rw [if_pos hc] at h
      by_cases hi : zk_o i n = true
      · rw [if_pos hi] at h; cases h
      · rw [if_neg hi] at h
        subst hc
        have hk1 : E.2.2.2.1[k]? = some (2000 + n) := zk_whd (zk_wtl hst)
        have he := zk_at μ hk1
        rw [zk_Eb hn] at he
        exact va_bald (D := E.2.1) (cl := vwCl) (a := E.1 k) (ws := zk_ws E μ) (tys := zk_ty E) hx hb hK hW.1 k 1 he rfl (zk_o_in hi) hd (hk H locs ls L (.inl (μ.1 k i.toNatClampNeg) :: st) μ r h hL (zk_wcons trivial (zk_wtl (zk_wtl hst))) hW hS)
    · rw [if_neg hc] at h; cases h
  · cases h
def zi_lald {ρ : Type} (n : Nat) (κ : ZK ρ) : ZK ρ := fun L st μ => match st with
  | .inl i :: .inr (.inr w) :: st => if w.1 = 3000 + n then (if zk_o i n = true then none else κ L (.inr (.inl (μ.2 w.2 i.toNatClampNeg)) :: st) μ) else none
  | _ => none
theorem zs_lald {X : ZX} {E : ZE} {own : String} {cc : ByteArray} {nL : Nat} {ret : Option FieldType} {rm : Room} {ρ : Type} {q : ρ → ZR} {pc : Nat} {κ : ZK ρ} {n : Nat} (C : zk_X X E own cc nL ret rm) (hd : decode cc pc = .ok (.laload, 1)) (hn : n < 1000) (hk : zk_S X E nL q (pc + 1) κ) : zk_S X E nL q (pc) (zi_lald n κ) := by
  obtain ⟨p, l, e, R, s, m, args, below, meth, c⟩ := X
  obtain ⟨hx, hb, hml, hown, hts, hK, hlk, hrt, hok, hR⟩ := C
  intro H locs ls L st μ r h hL hst hW hS
  unfold zi_lald at h
  split at h
  · rename_i i w st
    obtain ⟨kd1, k⟩ := w
    by_cases hc : kd1 = 3000 + n
    · rw [if_pos hc] at h
      by_cases hi : zk_o i n = true
      · rw [if_pos hi] at h; cases h
      · rw [if_neg hi] at h
        subst hc
        have hk1 : E.2.2.2.1[k]? = some (3000 + n) := zk_whd (zk_wtl hst)
        have he := zk_at μ hk1
        rw [zk_El hn] at he
        exact va_lald (D := E.2.1) (cl := vwCl) (a := E.1 k) (ws := zk_ws E μ) (tys := zk_ty E) hx hb hK hW.1 k 2 he rfl (zk_o_in hi) hd (hk H locs ls L (.inr (.inl (μ.2 k i.toNatClampNeg)) :: st) μ r h hL (zk_wcons trivial (zk_wtl (zk_wtl hst))) hW hS)
    · rw [if_neg hc] at h; cases h
  · cases h
def zi_aldT {ρ : Type} (κ : ZK ρ) : ZK ρ := fun L st μ => match st with
  | .inl i :: .inr (.inr w) :: st => if w.1 = 4008 then (if zk_o i 8 = true then none else κ L (.inr (.inr (3, w.2 + 1 + 5 * i.toNatClampNeg)) :: st) μ) else none
  | _ => none
theorem zs_aldT {X : ZX} {E : ZE} {own : String} {cc : ByteArray} {nL : Nat} {ret : Option FieldType} {rm : Room} {ρ : Type} {q : ρ → ZR} {pc : Nat} {κ : ZK ρ} (C : zk_X X E own cc nL ret rm) (hd : decode cc pc = .ok (.aaload, 1)) (hk : zk_S X E nL q (pc + 1) κ) : zk_S X E nL q (pc) (zi_aldT κ) := by
  obtain ⟨p, l, e, R, s, m, args, below, meth, c⟩ := X
  obtain ⟨hx, hb, hml, hown, hts, hK, hlk, hrt, hok, hR⟩ := C
  intro H locs ls L st μ r h hL hst hW hS
  unfold zi_aldT at h
  split at h
  · rename_i i w st
    obtain ⟨kd1, k⟩ := w
    by_cases hc : kd1 = 4008
    · rw [if_pos hc] at h
      by_cases hi : zk_o i 8 = true
      · rw [if_pos hi] at h; cases h
      · rw [if_neg hi] at h
        subst hc
        have hk1 : E.2.2.2.1[k]? = some 4008 := zk_whd (zk_wtl hst)
        have he := zk_at μ hk1
        have hlt : i.toNatClampNeg < 8 := Nat.not_le.mp fun z => zk_o_in hi (Or.inr z)
        refine va_aldq (D := E.2.1) (cl := vwCl) (a := E.1 k) (ws := zk_ws E μ) (tys := zk_ty E) hx hb hK hW.1 k 3 he rfl (zk_o_in hi) hd ?_
        rw [if_pos hlt]
        exact hk H locs ls L (.inr (.inr (3, k + 1 + 5 * i.toNatClampNeg)) :: st) μ r h hL (zk_wcons (zk_ok_t hok hk1 hlt) (zk_wtl (zk_wtl hst))) hW hS
    · rw [if_neg hc] at h; cases h
  · cases h
def zi_aldS {ρ : Type} (κ : ZK ρ) : ZK ρ := fun L st μ => match st with
  | .inl i :: .inr (.inr w) :: st => if w.1 = 5004 then (if zk_o i 4 = true then none else κ L (.inr (.inr (1, w.2 + 6 + 2 * i.toNatClampNeg)) :: st) μ) else none
  | _ => none
theorem zs_aldS {X : ZX} {E : ZE} {own : String} {cc : ByteArray} {nL : Nat} {ret : Option FieldType} {rm : Room} {ρ : Type} {q : ρ → ZR} {pc : Nat} {κ : ZK ρ} (C : zk_X X E own cc nL ret rm) (hd : decode cc pc = .ok (.aaload, 1)) (hk : zk_S X E nL q (pc + 1) κ) : zk_S X E nL q (pc) (zi_aldS κ) := by
  obtain ⟨p, l, e, R, s, m, args, below, meth, c⟩ := X
  obtain ⟨hx, hb, hml, hown, hts, hK, hlk, hrt, hok, hR⟩ := C
  intro H locs ls L st μ r h hL hst hW hS
  unfold zi_aldS at h
  split at h
  · rename_i i w st
    obtain ⟨kd1, k⟩ := w
    by_cases hc : kd1 = 5004
    · rw [if_pos hc] at h
      by_cases hi : zk_o i 4 = true
      · rw [if_pos hi] at h; cases h
      · rw [if_neg hi] at h
        subst hc
        have hk1 : E.2.2.2.1[k]? = some 5004 := zk_whd (zk_wtl hst)
        have he := zk_at μ hk1
        have hlt : i.toNatClampNeg < 4 := Nat.not_le.mp fun z => zk_o_in hi (Or.inr z)
        refine va_aldq (D := E.2.1) (cl := vwCl) (a := E.1 k) (ws := zk_ws E μ) (tys := zk_ty E) hx hb hK hW.1 k 4 he rfl (zk_o_in hi) hd ?_
        rw [if_pos hlt]
        exact hk H locs ls L (.inr (.inr (1, k + 6 + 2 * i.toNatClampNeg)) :: st) μ r h hL (zk_wcons (zk_ok_s hok hk1 hlt) (zk_wtl (zk_wtl hst))) hW hS
    · rw [if_neg hc] at h; cases h
  · cases h
def zi_iast {ρ : Type} (n : Nat) (κ : ZK ρ) : ZK ρ := fun L st μ => match st with
  | .inl x :: .inl i :: .inr (.inr w) :: st => if w.1 = 1000 + n then (if zk_o i n = true then none else κ L st (zk_si μ w.2 i.toNatClampNeg x)) else none
  | _ => none
theorem zs_iast {X : ZX} {E : ZE} {own : String} {cc : ByteArray} {nL : Nat} {ret : Option FieldType} {rm : Room} {ρ : Type} {q : ρ → ZR} {pc : Nat} {κ : ZK ρ} {n : Nat} (C : zk_X X E own cc nL ret rm) (hd : decode cc pc = .ok (.iastore, 1)) (hn : n < 1000) (hk : zk_S X E nL q (pc + 1) κ) : zk_S X E nL q (pc) (zi_iast n κ) := by
  obtain ⟨p, l, e, R, s, m, args, below, meth, c⟩ := X
  obtain ⟨hx, hb, hml, hown, hts, hK, hlk, hrt, hok, hR⟩ := C
  intro H locs ls L st μ r h hL hst hW hS
  unfold zi_iast at h
  split at h
  · rename_i x i w st
    obtain ⟨kd1, k⟩ := w
    by_cases hc : kd1 = 1000 + n
    · rw [if_pos hc] at h
      by_cases hi : zk_o i n = true
      · rw [if_pos hi] at h; cases h
      · rw [if_neg hi] at h
        subst hc
        have hk1 : E.2.2.2.1[k]? = some (1000 + n) := zk_whd (zk_wtl (zk_wtl hst))
        have he := zk_at μ hk1
        rw [zk_Ei hn] at he
        refine va_iast (D := E.2.1) (cl := vwCl) (a := E.1 k) (ws := zk_ws E μ) (tys := zk_ty E) (x := x) hx hb hK hW.1 hW.2 hS k 0 he rfl (zk_o_in hi) hd (fun H1 locs1 hP1 hD1 hS1 => ?_)
        have e1 : (zk_ws E μ).set k (E.1 k, .inl (E.2.2.1 1, n, .inl (upd (μ.1 k) i.toNatClampNeg x))) = zk_ws E (zk_si μ k i.toNatClampNeg x) := by
          rw [← zk_set hk1 (zk_si_o (v := x)), zk_Ei hn]
          simp [zk_si, zk_sj]
        rw [e1] at hP1 hD1
        exact hk H1 locs1 ls L st _ r h hL (zk_wtl (zk_wtl (zk_wtl hst))) ⟨hP1, hD1⟩ hS1
    · rw [if_neg hc] at h; cases h
  · cases h
def zi_bast {ρ : Type} (n : Nat) (κ : ZK ρ) : ZK ρ := fun L st μ => match st with
  | .inl x :: .inl i :: .inr (.inr w) :: st => if w.1 = 2000 + n then (if zk_o i n = true then none else κ L st (zk_si μ w.2 i.toNatClampNeg (vp_nar .byte x))) else none
  | _ => none
theorem zs_bast {X : ZX} {E : ZE} {own : String} {cc : ByteArray} {nL : Nat} {ret : Option FieldType} {rm : Room} {ρ : Type} {q : ρ → ZR} {pc : Nat} {κ : ZK ρ} {n : Nat} (C : zk_X X E own cc nL ret rm) (hd : decode cc pc = .ok (.bastore, 1)) (hn : n < 1000) (hk : zk_S X E nL q (pc + 1) κ) : zk_S X E nL q (pc) (zi_bast n κ) := by
  obtain ⟨p, l, e, R, s, m, args, below, meth, c⟩ := X
  obtain ⟨hx, hb, hml, hown, hts, hK, hlk, hrt, hok, hR⟩ := C
  intro H locs ls L st μ r h hL hst hW hS
  unfold zi_bast at h
  split at h
  · rename_i x i w st
    obtain ⟨kd1, k⟩ := w
    by_cases hc : kd1 = 2000 + n
    · rw [if_pos hc] at h
      by_cases hi : zk_o i n = true
      · rw [if_pos hi] at h; cases h
      · rw [if_neg hi] at h
        subst hc
        have hk1 : E.2.2.2.1[k]? = some (2000 + n) := zk_whd (zk_wtl (zk_wtl hst))
        have he := zk_at μ hk1
        rw [zk_Eb hn] at he
        refine va_bast (D := E.2.1) (cl := vwCl) (a := E.1 k) (ws := zk_ws E μ) (tys := zk_ty E) (x := x) hx hb hK hW.1 hW.2 hS k 1 he rfl (zk_o_in hi) hd (fun H1 locs1 hP1 hD1 hS1 => ?_)
        have e1 : (zk_ws E μ).set k (E.1 k, .inl (E.2.2.1 2, n, .inl (upd (μ.1 k) i.toNatClampNeg (vp_nar .byte x)))) = zk_ws E (zk_si μ k i.toNatClampNeg (vp_nar .byte x)) := by
          rw [← zk_set hk1 (zk_si_o (v := vp_nar .byte x)), zk_Eb hn]
          simp [zk_si, zk_sj]
        rw [e1] at hP1 hD1
        exact hk H1 locs1 ls L st _ r h hL (zk_wtl (zk_wtl (zk_wtl hst))) ⟨hP1, hD1⟩ hS1
    · rw [if_neg hc] at h; cases h
  · cases h
def zi_last {ρ : Type} (n : Nat) (κ : ZK ρ) : ZK ρ := fun L st μ => match st with
  | .inr (.inl x) :: .inl i :: .inr (.inr w) :: st => if w.1 = 3000 + n then (if zk_o i n = true then none else κ L st (zk_sj μ w.2 i.toNatClampNeg x)) else none
  | _ => none
theorem zs_last {X : ZX} {E : ZE} {own : String} {cc : ByteArray} {nL : Nat} {ret : Option FieldType} {rm : Room} {ρ : Type} {q : ρ → ZR} {pc : Nat} {κ : ZK ρ} {n : Nat} (C : zk_X X E own cc nL ret rm) (hd : decode cc pc = .ok (.lastore, 1)) (hn : n < 1000) (hk : zk_S X E nL q (pc + 1) κ) : zk_S X E nL q (pc) (zi_last n κ) := by
  obtain ⟨p, l, e, R, s, m, args, below, meth, c⟩ := X
  obtain ⟨hx, hb, hml, hown, hts, hK, hlk, hrt, hok, hR⟩ := C
  intro H locs ls L st μ r h hL hst hW hS
  unfold zi_last at h
  split at h
  · rename_i x i w st
    obtain ⟨kd1, k⟩ := w
    by_cases hc : kd1 = 3000 + n
    · rw [if_pos hc] at h
      by_cases hi : zk_o i n = true
      · rw [if_pos hi] at h; cases h
      · rw [if_neg hi] at h
        subst hc
        have hk1 : E.2.2.2.1[k]? = some (3000 + n) := zk_whd (zk_wtl (zk_wtl hst))
        have he := zk_at μ hk1
        rw [zk_El hn] at he
        refine va_last (D := E.2.1) (cl := vwCl) (a := E.1 k) (ws := zk_ws E μ) (tys := zk_ty E) (x := x) hx hb hK hW.1 hW.2 hS k 2 he rfl (zk_o_in hi) hd (fun H1 locs1 hP1 hD1 hS1 => ?_)
        have e1 : (zk_ws E μ).set k (E.1 k, .inl (E.2.2.1 3, n, .inr (.inl (vp_updL (μ.2 k) i.toNatClampNeg x)))) = zk_ws E (zk_sj μ k i.toNatClampNeg x) := by
          rw [← zk_set hk1 (zk_sj_o (v := x)), zk_El hn]
          simp [zk_si, zk_sj]
        rw [e1] at hP1 hD1
        exact hk H1 locs1 ls L st _ r h hL (zk_wtl (zk_wtl (zk_wtl hst))) ⟨hP1, hD1⟩ hS1
    · rw [if_neg hc] at h; cases h
  · cases h
def zi_cpI {ρ : Type} (n0 n1 : Nat) (κ : ZK ρ) : ZK ρ := fun L st μ => match st with
  | .inl n :: .inl dp :: .inr (.inr w1) :: .inl sp :: .inr (.inr w0) :: st => if w0.1 = 1000 + n0 ∧ w1.1 = 1000 + n1 ∧ zk_sz st ≤ 8 then (if ¬ sp < 0 ∧ ¬ dp < 0 ∧ ¬ n < 0 ∧ sp.toNatClampNeg + n.toNatClampNeg ≤ n0 ∧ dp.toNatClampNeg + n.toNatClampNeg ≤ n1 then κ L st (zk_ci μ w0.2 w1.2 sp.toNatClampNeg dp.toNatClampNeg n.toNatClampNeg) else none) else none
  | _ => none
theorem zs_cpI {X : ZX} {E : ZE} {own : String} {cc : ByteArray} {nL : Nat} {ret : Option FieldType} {rm : Room} {ρ : Type} {q : ρ → ZR} {pc : Nat} {κ : ZK ρ} {idx n0 n1 : Nat} (C : zk_X X E own cc nL ret rm) (hd : decode cc pc = .ok (.invokestatic idx, 3)) (hn0 : n0 < 1000) (hn1 : n1 < 1000) (h1 : Cond.methodLink own idx arraycopyName ∈ zk_T) (h2 : Cond.native arraycopyName ∈ zk_T) (h3 : Cond.static arraycopyName ∈ zk_T) (h4 : Cond.initialized "java/lang/System" ∈ zk_T) (hr1 : 1 ≤ rm.frames) (hr2 : 8 + (nativeFrameWords "java/lang/System" "arraycopy" 5 + 11) ≤ rm.locals) (hk : zk_S X E nL q (pc + 3) κ) : zk_S X E nL q (pc) (zi_cpI n0 n1 κ) := by
  obtain ⟨p, l, e, R, s, m, args, below, meth, c⟩ := X
  obtain ⟨hx, hb, hml, hown, hts, hK, hlk, hrt, hok, hR⟩ := C
  intro H locs ls L st μ r h hL hst hW hS
  unfold zi_cpI at h
  split at h
  · rename_i n dp w1 sp w0 st
    obtain ⟨kd1, k1⟩ := w1
    obtain ⟨kd0, k0⟩ := w0
    by_cases hc : kd0 = 1000 + n0 ∧ kd1 = 1000 + n1 ∧ zk_sz st ≤ 8
    · rw [if_pos hc] at h
      by_cases hi : ¬ sp < 0 ∧ ¬ dp < 0 ∧ ¬ n < 0 ∧ sp.toNatClampNeg + n.toNatClampNeg ≤ n0 ∧ dp.toNatClampNeg + n.toNatClampNeg ≤ n1
      · rw [if_pos hi] at h
        obtain ⟨rfl, rfl, hsz⟩ := hc
        have hk1 : E.2.2.2.1[k1]? = some (1000 + n1) := zk_whd (zk_wtl (zk_wtl hst))
        have hk0 : E.2.2.2.1[k0]? = some (1000 + n0) := zk_whd (zk_wtl (zk_wtl (zk_wtl (zk_wtl hst))))
        have he1 := zk_at μ hk1
        have he0 := zk_at μ hk0
        rw [zk_Ei hn1] at he1
        rw [zk_Ei hn0] at he0
        refine va_copyi (D := E.2.1) (cl := vwCl) (a := E.1 k1) (a0 := E.1 k0) (ws := zk_ws E μ) (tys := zk_ty E) (ty := .int) hx hb (hml.trans hL.2.2.1.symm) hown (hts _ h1) (hts _ h2) (hts _ h3) (hts _ h4) hK hW.1 hW.2 hS k0 k1 0 0 he0 he1 rfl rfl rfl hi.1 hi.2.1 hi.2.2.1 hi.2.2.2.1 hi.2.2.2.2 (fun _ _ => rfl) (by rw [← hR] at hr1; exact hr1) (by rw [zk_sz_c]; rw [← hR] at hr2; exact Nat.le_trans (Nat.add_le_add_right hsz _) hr2) hd (fun H1 locs1 hP1 hD1 hS1 => ?_)
        have e1 : (zk_ws E μ).set k1 (E.1 k1, .inl (E.2.2.1 1, n1, .inl (va_cpy (μ.1 k0) (μ.1 k1) sp.toNatClampNeg dp.toNatClampNeg n.toNatClampNeg))) = zk_ws E (zk_ci μ k0 k1 sp.toNatClampNeg dp.toNatClampNeg n.toNatClampNeg) := by
          rw [← zk_set hk1 (zk_ci_o (k0 := k0) (j := sp.toNatClampNeg) (a := dp.toNatClampNeg) (n := n.toNatClampNeg)), zk_Ei hn1]
          simp [zk_ci, zk_cj]
        rw [e1] at hP1 hD1
        exact hk H1 locs1 ls L st _ r h hL (zk_wtl (zk_wtl (zk_wtl (zk_wtl (zk_wtl hst))))) ⟨hP1, hD1⟩ hS1
      · rw [if_neg hi] at h; cases h
    · rw [if_neg hc] at h; cases h
  · cases h
def zi_cpJ {ρ : Type} (n0 n1 : Nat) (κ : ZK ρ) : ZK ρ := fun L st μ => match st with
  | .inl n :: .inl dp :: .inr (.inr w1) :: .inl sp :: .inr (.inr w0) :: st => if w0.1 = 3000 + n0 ∧ w1.1 = 3000 + n1 ∧ zk_sz st ≤ 8 then (if ¬ sp < 0 ∧ ¬ dp < 0 ∧ ¬ n < 0 ∧ sp.toNatClampNeg + n.toNatClampNeg ≤ n0 ∧ dp.toNatClampNeg + n.toNatClampNeg ≤ n1 then κ L st (zk_cj μ w0.2 w1.2 sp.toNatClampNeg dp.toNatClampNeg n.toNatClampNeg) else none) else none
  | _ => none
theorem zs_cpJ {X : ZX} {E : ZE} {own : String} {cc : ByteArray} {nL : Nat} {ret : Option FieldType} {rm : Room} {ρ : Type} {q : ρ → ZR} {pc : Nat} {κ : ZK ρ} {idx n0 n1 : Nat} (C : zk_X X E own cc nL ret rm) (hd : decode cc pc = .ok (.invokestatic idx, 3)) (hn0 : n0 < 1000) (hn1 : n1 < 1000) (h1 : Cond.methodLink own idx arraycopyName ∈ zk_T) (h2 : Cond.native arraycopyName ∈ zk_T) (h3 : Cond.static arraycopyName ∈ zk_T) (h4 : Cond.initialized "java/lang/System" ∈ zk_T) (hr1 : 1 ≤ rm.frames) (hr2 : 8 + (nativeFrameWords "java/lang/System" "arraycopy" 5 + 11) ≤ rm.locals) (hk : zk_S X E nL q (pc + 3) κ) : zk_S X E nL q (pc) (zi_cpJ n0 n1 κ) := by
  obtain ⟨p, l, e, R, s, m, args, below, meth, c⟩ := X
  obtain ⟨hx, hb, hml, hown, hts, hK, hlk, hrt, hok, hR⟩ := C
  intro H locs ls L st μ r h hL hst hW hS
  unfold zi_cpJ at h
  split at h
  · rename_i n dp w1 sp w0 st
    obtain ⟨kd1, k1⟩ := w1
    obtain ⟨kd0, k0⟩ := w0
    by_cases hc : kd0 = 3000 + n0 ∧ kd1 = 3000 + n1 ∧ zk_sz st ≤ 8
    · rw [if_pos hc] at h
      by_cases hi : ¬ sp < 0 ∧ ¬ dp < 0 ∧ ¬ n < 0 ∧ sp.toNatClampNeg + n.toNatClampNeg ≤ n0 ∧ dp.toNatClampNeg + n.toNatClampNeg ≤ n1
      · rw [if_pos hi] at h
        obtain ⟨rfl, rfl, hsz⟩ := hc
        have hk1 : E.2.2.2.1[k1]? = some (3000 + n1) := zk_whd (zk_wtl (zk_wtl hst))
        have hk0 : E.2.2.2.1[k0]? = some (3000 + n0) := zk_whd (zk_wtl (zk_wtl (zk_wtl (zk_wtl hst))))
        have he1 := zk_at μ hk1
        have he0 := zk_at μ hk0
        rw [zk_El hn1] at he1
        rw [zk_El hn0] at he0
        refine va_copyl (D := E.2.1) (cl := vwCl) (a := E.1 k1) (a0 := E.1 k0) (ws := zk_ws E μ) (tys := zk_ty E) (ty := .long) hx hb (hml.trans hL.2.2.1.symm) hown (hts _ h1) (hts _ h2) (hts _ h3) (hts _ h4) hK hW.1 hW.2 hS k0 k1 2 2 he0 he1 rfl rfl rfl hi.1 hi.2.1 hi.2.2.1 hi.2.2.2.1 hi.2.2.2.2 (fun _ _ => rfl) (by rw [← hR] at hr1; exact hr1) (by rw [zk_sz_c]; rw [← hR] at hr2; exact Nat.le_trans (Nat.add_le_add_right hsz _) hr2) hd (fun H1 locs1 hP1 hD1 hS1 => ?_)
        have e1 : (zk_ws E μ).set k1 (E.1 k1, .inl (E.2.2.1 3, n1, .inr (.inl (va_cpy (μ.2 k0) (μ.2 k1) sp.toNatClampNeg dp.toNatClampNeg n.toNatClampNeg)))) = zk_ws E (zk_cj μ k0 k1 sp.toNatClampNeg dp.toNatClampNeg n.toNatClampNeg) := by
          rw [← zk_set hk1 (zk_cj_o (k0 := k0) (j := sp.toNatClampNeg) (a := dp.toNatClampNeg) (n := n.toNatClampNeg)), zk_El hn1]
          simp [zk_ci, zk_cj]
        rw [e1] at hP1 hD1
        exact hk H1 locs1 ls L st _ r h hL (zk_wtl (zk_wtl (zk_wtl (zk_wtl (zk_wtl hst))))) ⟨hP1, hD1⟩ hS1
      · rw [if_neg hi] at h; cases h
    · rw [if_neg hc] at h; cases h
  · cases h
def zi_mmin {ρ : Type} (κ : ZK ρ) : ZK ρ := fun L st μ => match st with
  | .inl y :: .inl x :: st => if zk_sz st ≤ 8 then κ L (.inl (if y < x then y else x) :: st) μ else none
  | _ => none
theorem zs_mmin {X : ZX} {E : ZE} {own : String} {cc : ByteArray} {nL : Nat} {ret : Option FieldType} {rm : Room} {ρ : Type} {q : ρ → ZR} {pc : Nat} {κ : ZK ρ} {idx : Nat} (C : zk_X X E own cc nL ret rm) (hd : decode cc pc = .ok (.invokestatic idx, 3)) (h1 : Cond.methodLink own idx Lib.Math.min.name ∈ zk_T) (h2 : Cond.static Lib.Math.min.name ∈ zk_T) (h3 : Cond.initialized "java/lang/Math" ∈ zk_T) (h4 : Cond.code Lib.Math.min.name Lib.Math.min.code 2 (some .int) ∈ zk_T) (hr1 : 1 ≤ rm.frames) (hr2 : 21 ≤ rm.locals) (hk : zk_S X E nL q (pc + 3) κ) : zk_S X E nL q (pc) (zi_mmin κ) := by
  obtain ⟨p, l, e, R, s, m, args, below, meth, c⟩ := X
  obtain ⟨hx, hb, hml, hown, hts, hK, hlk, hrt, hok, hR⟩ := C
  intro H locs ls L st μ r h hL hst hW hS
  unfold zi_mmin at h
  split at h
  · rename_i y x st
    by_cases hc : zk_sz st ≤ 8
    · rw [if_pos hc] at h
      exact va_mmin hx hb (hml.trans hL.2.2.1.symm) hown (hts _ h1) (hts _ h2) (hts _ h3) (hts _ h4) (by rw [← hR] at hr1; exact hr1) (by rw [zk_sz_c]; rw [← hR] at hr2; exact Nat.le_trans (Nat.add_le_add_right hc _) hr2) (Nat.zero_le _) (Nat.zero_le _) hd (hk H locs ls L (.inl (if y < x then y else x) :: st) μ r h hL (zk_wcons trivial (zk_wtl (zk_wtl hst))) hW hS)
    · rw [if_neg hc] at h; cases h
  · cases h
def zi_mmax {ρ : Type} (κ : ZK ρ) : ZK ρ := fun L st μ => match st with
  | .inl y :: .inl x :: st => if zk_sz st ≤ 8 then κ L (.inl (if x < y then y else x) :: st) μ else none
  | _ => none
theorem zs_mmax {X : ZX} {E : ZE} {own : String} {cc : ByteArray} {nL : Nat} {ret : Option FieldType} {rm : Room} {ρ : Type} {q : ρ → ZR} {pc : Nat} {κ : ZK ρ} {idx : Nat} (C : zk_X X E own cc nL ret rm) (hd : decode cc pc = .ok (.invokestatic idx, 3)) (h1 : Cond.methodLink own idx Lib.Math.max.name ∈ zk_T) (h2 : Cond.static Lib.Math.max.name ∈ zk_T) (h3 : Cond.initialized "java/lang/Math" ∈ zk_T) (h4 : Cond.code Lib.Math.max.name Lib.Math.max.code 2 (some .int) ∈ zk_T) (hr1 : 1 ≤ rm.frames) (hr2 : 21 ≤ rm.locals) (hk : zk_S X E nL q (pc + 3) κ) : zk_S X E nL q (pc) (zi_mmax κ) := by
  obtain ⟨p, l, e, R, s, m, args, below, meth, c⟩ := X
  obtain ⟨hx, hb, hml, hown, hts, hK, hlk, hrt, hok, hR⟩ := C
  intro H locs ls L st μ r h hL hst hW hS
  unfold zi_mmax at h
  split at h
  · rename_i y x st
    by_cases hc : zk_sz st ≤ 8
    · rw [if_pos hc] at h
      exact va_mmax hx hb (hml.trans hL.2.2.1.symm) hown (hts _ h1) (hts _ h2) (hts _ h3) (hts _ h4) (by rw [← hR] at hr1; exact hr1) (by rw [zk_sz_c]; rw [← hR] at hr2; exact Nat.le_trans (Nat.add_le_add_right hc _) hr2) (Nat.zero_le _) (Nat.zero_le _) hd (hk H locs ls L (.inl (if x < y then y else x) :: st) μ r h hL (zk_wcons trivial (zk_wtl (zk_wtl hst))) hW hS)
    · rw [if_neg hc] at h; cases h
  · cases h
/-- behind a call -/
theorem zk_run {p : Program} {l : Launch} {e : Env} {R : Room} {s : State} {m : MethodId} {args : Array Value} {below : List Frame} {meth : Method} {c : Code} {H : Heap} {locs : List Loc} {Q : State → Prop} {pc : Nat} {ls : Array Slot} {st0 rest : List Value} {E : ZE} {r : ZR} {a : Array Value} {H0 : Heap}
    (hr : va_Run p l e R s m args below meth c H locs 0 0 0 0 (F0 m pc ls st0) rest (zk_Q E r a) E.2.2.2.2) (hS : va_S E.2.2.2.2 H0 H locs)
    (kk : ∀ (H1 : Heap) (locs1 : List Loc), zk_W E r.2 H1 → va_S E.2.2.2.2 H0 H1 locs1 → W p l e R s m args below meth c H1 locs1 0 0 Q (F0 m (pc + 3) ls ((r.1.map (zk_c E.1)).toList ++ rest))) : W p l e R s m args below meth c H locs 0 0 Q (F0 m pc ls st0) := by
  intro T hT X
  obtain ⟨v, st₀, t, T', L, h0, X', hL, e1, e2, ⟨hv, ⟨hb, -⟩, hz, hk⟩, st⟩ := hr T hT X
  obtain rfl : v = r.1.map (zk_c E.1) := by injection hv
  rw [h0] at hz hk
  obtain ⟨t2, a1, b1⟩ := kk T'.heap (locs ++ L) (by rw [e1]; exact hb)
    ⟨Nat.le_trans hS.1 (by rw [e1]; exact hz), fun q h1 h2 => by rw [e1, hk q (Nat.lt_of_lt_of_le h1 hS.1) h2]; exact hS.2.1 q h1 h2, fun q hq => by
      rcases List.mem_append.mp hq with h | h
      · exact hS.2.2 q h
      · exact hL q h⟩ T' rfl X'
  exact ⟨t2, st t2 a1, b1⟩
theorem zk_blind {E : ZE} {μ : ZM} {av : List Value} : FrameBlind (va_Pc av (fun U => zk_W E μ U.heap ∧ zk_K E U)) := fun a U g mk h => ⟨h.1, h.2.1, va_K.moved (u := U) (U := U.calling g mk a) (Vm.Alike.refl U.vm) h.2.2⟩
theorem zk_good {y : MethodName} {cc : ByteArray} {n : Nat} {ret : Option FieldType} (h : Cond.code y cc n ret ∈ zk_T) : GoodIn zk_T (Cond.code y cc n ret :: zk_T) := fun w hw => by
  have : w ∈ zk_T := (List.mem_cons.mp hw).elim (fun e => e ▸ h) id
  exact ⟨this, good_of_word (List.mem_filter.mp this).2⟩
/-- a method that can be called: its contract, its words, its shape of a call -/
def zk_MS {σ : Type} (y : MethodName) (cc : ByteArray) (nL : Nat) (ret : Option FieldType) (rm : Room) (q : σ → ZR) (G : List ZV → ZM → Option σ) (n : Nat) : Prop :=
  zk_C y cc nL ret rm q G ∧ Cond.code y cc nL ret ∈ zk_T ∧ Cond.static y ∈ zk_T ∧ Cond.initialized y.cls ∈ zk_T ∧ rm.cells = 0 ∧ rm.slots = 0 ∧ (y.cls ≠ "java/lang/invoke/MethodHandle" ∧ y.cls ≠ "java/lang/invoke/VarHandle" ∧ (parseMethodDescriptor y.desc).map (fun d => d.parameters.length) = some n)
def zk_MV {σ : Type} (y : MethodName) (cc : ByteArray) (nL : Nat) (ret : Option FieldType) (rm : Room) (q : σ → ZR) (G : List ZV → ZM → Option σ) (n ci : Nat) : Prop :=
  zk_C y cc nL ret rm q G ∧ Cond.code y cc nL ret ∈ zk_T ∧ Cond.instanceMethod y ∈ zk_T ∧ Cond.selects y.cls y y ∈ zk_T ∧ Cond.initialized y.cls ∈ zk_T ∧ rm.cells = 0 ∧ rm.slots = 0 ∧ (y.cls ≠ "java/lang/invoke/MethodHandle" ∧ y.cls ≠ "java/lang/invoke/VarHandle" ∧ (parseMethodDescriptor y.desc).map (fun d => d.parameters.length) = some n) ∧ ci < 1000 ∧ (∃ (T : u_T) (N : Nat), vwCl[ci]? = some (y.cls, T, N)) ∧ (∀ as μ r, G as μ = some r → ∃ k As, as = .inr (.inr (ci, k)) :: As)
theorem zk_tk {st : List ZV} {n : Nat} {as : List ZV} (h : (st.take n).reverse = as) : st = as.reverse ++ st.drop n := by rw [← h, List.reverse_reverse, List.take_append_drop]

def zi_cI {ρ : Type} (n : Nat) (G : List ZV → ZM → Option (Int32 × ZM)) (κ : ZK ρ) : ZK ρ := fun L st μ => if (decide (n ≤ st.length) && decide (zk_sz (st.drop n) ≤ 8)) = true then (G (st.take n).reverse μ).bind (fun x => κ L (.inl x.1 :: st.drop n) x.2) else none
theorem zs_sI {X : ZX} {E : ZE} {own : String} {cc : ByteArray} {nL : Nat} {ret : Option FieldType} {rm : Room} {ρ : Type} {q : ρ → ZR} {pc : Nat} {κ : ZK ρ} {idx n nL1 : Nat} {y : MethodName} {cc1 : ByteArray} {ret1 : Option FieldType} {rm1 : Room} {G : List ZV → ZM → Option (Int32 × ZM)} (C : zk_X X E own cc nL ret rm) (hd : decode cc pc = .ok (.invokestatic idx, 3)) (M : zk_MS y cc1 nL1 ret1 rm1 zq_I G n) (h1 : Cond.methodLink own idx y ∈ zk_T) (hr : rm1.frames + 1 ≤ rm.frames ∧ 8 + (nL1 + 11) + rm1.locals ≤ rm.locals) (hk : zk_S X E nL q (pc + 3) κ) : zk_S X E nL q (pc) (zi_cI n G κ) := by
  obtain ⟨p, l, e, R, s, m, args, below, meth, c⟩ := X
  obtain ⟨hx, hb, hml, hown, hts, hK, hlk, hrt, hok, hR⟩ := C
  intro H locs ls L st μ r h hL hst hW hS
  obtain ⟨m1, m2, m3, m4, m5, m6, m7⟩ := M
  unfold zi_cI at h
  by_cases hc : (decide (n ≤ st.length) && decide (zk_sz (st.drop n) ≤ 8)) = true
  · rw [if_pos hc] at h
    simp only [Bool.and_eq_true, decide_eq_true_eq] at hc
    obtain ⟨x, hx1, hx2⟩ := Option.bind_eq_some_iff.mp h
    have hes := zk_tk (st := st) (n := n) rfl
    have hwa : ∀ v ∈ (st.take n).reverse, zk_w E v := fun v hv => hst v (List.mem_of_mem_take (List.mem_reverse.mp hv))
    have hMet := m1 l E _ μ x hx1 hok hwa
    have hstk : st.map (zk_c E.1) = ((st.take n).reverse.map (zk_c E.1)).reverse ++ (st.drop n).map (zk_c E.1) := by
      rw [← List.map_reverse, List.reverse_reverse, ← List.map_append, List.take_append_drop]
    refine zk_run (r := zq_I x) (rest := (st.drop n).map (zk_c E.1)) (va_runS (n := n) (As := (st.take n).reverse.map (zk_c E.1)) ⟨hx, hb, hml, hown, hts⟩ hMet ⟨callB_of n hts (zk_good m2) rfl m5 m6 (hts _ m4) (hts _ h1) m7 (by rw [← hR] at hr; exact hr), hts _ m3⟩ ⟨zk_blind, fun U hU hWm => ⟨rfl, by rw [hU]; exact hW, va_K.moved hWm.alike hK⟩⟩ rfl (by simp; omega) hL.2.2.1 hstk (lv_room (by rw [zk_sz_c]; exact hc.2)) hd ⟨Nat.zero_le _, Nat.zero_le _⟩) hS (fun H1 locs1 hW1 hS1 => ?_)
    exact hk H1 locs1 ls L _ _ r hx2 hL (zk_wcons trivial (fun v hv => hst v (List.mem_of_mem_drop hv))) hW1 hS1
  · rw [if_neg hc] at h; cases h
theorem zs_vI {X : ZX} {E : ZE} {own : String} {cc : ByteArray} {nL : Nat} {ret : Option FieldType} {rm : Room} {ρ : Type} {q : ρ → ZR} {pc : Nat} {κ : ZK ρ} {idx n nL1 ci : Nat} {y : MethodName} {cc1 : ByteArray} {ret1 : Option FieldType} {rm1 : Room} {G : List ZV → ZM → Option (Int32 × ZM)} (C : zk_X X E own cc nL ret rm) (hd : decode cc pc = .ok (.invokevirtual idx, 3)) (M : zk_MV y cc1 nL1 ret1 rm1 zq_I G n ci) (h1 : Cond.methodLink own idx y ∈ zk_T) (hr : rm1.frames + 1 ≤ rm.frames ∧ 8 + (nL1 + 11) + rm1.locals ≤ rm.locals) (hk : zk_S X E nL q (pc + 3) κ) : zk_S X E nL q (pc) (zi_cI (n + 1) G κ) := by
  obtain ⟨p, l, e, R, s, m, args, below, meth, c⟩ := X
  obtain ⟨hx, hb, hml, hown, hts, hK, hlk, hrt, hok, hR⟩ := C
  intro H locs ls L st μ r h hL hst hW hS
  obtain ⟨m1, m2, m3, m4, m5, m6, m7, m8, m9, ⟨T, N, m10⟩, m11⟩ := M
  unfold zi_cI at h
  by_cases hc : (decide (n + 1 ≤ st.length) && decide (zk_sz (st.drop (n + 1)) ≤ 8)) = true
  · rw [if_pos hc] at h
    simp only [Bool.and_eq_true, decide_eq_true_eq] at hc
    obtain ⟨x, hx1, hx2⟩ := Option.bind_eq_some_iff.mp h
    have hes := zk_tk (st := st) (n := n + 1) rfl
    have hwa : ∀ v ∈ (st.take (n + 1)).reverse, zk_w E v := fun v hv => hst v (List.mem_of_mem_take (List.mem_reverse.mp hv))
    have hMet := m1 l E _ μ x hx1 hok hwa
    obtain ⟨k, As, hAs⟩ := m11 _ _ _ hx1
    rw [hAs] at hMet hwa hes
    have hlA : As.length = n := by
      have e0 := congrArg List.length hAs
      simp at e0
      omega
    have hk1 : E.2.2.2.1[k]? = some ci := zk_whd hwa
    have he := zk_at μ hk1
    rw [zk_Eo m9] at he
    have hstk : st.map (zk_c E.1) = (As.map (zk_c E.1)).reverse ++ .ref (E.1 k) :: (st.drop (n + 1)).map (zk_c E.1) := by
      conv => lhs; rw [hes]
      simp [zk_c]
    refine zk_run (r := zq_I x) (rest := (st.drop (n + 1)).map (zk_c E.1)) (va_runV (n := n) (C := y.cls) (b := E.1 k) (As := As.map (zk_c E.1)) ⟨hx, hb, hml, hown, hts⟩ hMet ⟨callB_of n hts (zk_good m2) rfl m6 m7 (hts _ m5) (hts _ h1) m8 (by rw [← hR] at hr; exact hr), hts _ m3, hts _ m4⟩ ⟨zk_blind, va_recv hK hW.1 m10 he, fun U hU hWm => ⟨rfl, by rw [hU]; exact hW, va_K.moved hWm.alike hK⟩⟩ rfl (by simp [hlA]) hL.2.2.1 hstk (lv_room (by rw [zk_sz_c]; exact hc.2)) hd ⟨Nat.zero_le _, Nat.zero_le _⟩) hS (fun H1 locs1 hW1 hS1 => ?_)
    exact hk H1 locs1 ls L _ _ r hx2 hL (zk_wcons trivial (fun v hv => hst v (List.mem_of_mem_drop hv))) hW1 hS1
  · rw [if_neg hc] at h; cases h
def zi_cJ {ρ : Type} (n : Nat) (G : List ZV → ZM → Option (Int64 × ZM)) (κ : ZK ρ) : ZK ρ := fun L st μ => if (decide (n ≤ st.length) && decide (zk_sz (st.drop n) ≤ 8)) = true then (G (st.take n).reverse μ).bind (fun x => κ L (.inr (.inl x.1) :: st.drop n) x.2) else none
theorem zs_sJ {X : ZX} {E : ZE} {own : String} {cc : ByteArray} {nL : Nat} {ret : Option FieldType} {rm : Room} {ρ : Type} {q : ρ → ZR} {pc : Nat} {κ : ZK ρ} {idx n nL1 : Nat} {y : MethodName} {cc1 : ByteArray} {ret1 : Option FieldType} {rm1 : Room} {G : List ZV → ZM → Option (Int64 × ZM)} (C : zk_X X E own cc nL ret rm) (hd : decode cc pc = .ok (.invokestatic idx, 3)) (M : zk_MS y cc1 nL1 ret1 rm1 zq_J G n) (h1 : Cond.methodLink own idx y ∈ zk_T) (hr : rm1.frames + 1 ≤ rm.frames ∧ 8 + (nL1 + 11) + rm1.locals ≤ rm.locals) (hk : zk_S X E nL q (pc + 3) κ) : zk_S X E nL q (pc) (zi_cJ n G κ) := by
  obtain ⟨p, l, e, R, s, m, args, below, meth, c⟩ := X
  obtain ⟨hx, hb, hml, hown, hts, hK, hlk, hrt, hok, hR⟩ := C
  intro H locs ls L st μ r h hL hst hW hS
  obtain ⟨m1, m2, m3, m4, m5, m6, m7⟩ := M
  unfold zi_cJ at h
  by_cases hc : (decide (n ≤ st.length) && decide (zk_sz (st.drop n) ≤ 8)) = true
  · rw [if_pos hc] at h
    simp only [Bool.and_eq_true, decide_eq_true_eq] at hc
    obtain ⟨x, hx1, hx2⟩ := Option.bind_eq_some_iff.mp h
    have hes := zk_tk (st := st) (n := n) rfl
    have hwa : ∀ v ∈ (st.take n).reverse, zk_w E v := fun v hv => hst v (List.mem_of_mem_take (List.mem_reverse.mp hv))
    have hMet := m1 l E _ μ x hx1 hok hwa
    have hstk : st.map (zk_c E.1) = ((st.take n).reverse.map (zk_c E.1)).reverse ++ (st.drop n).map (zk_c E.1) := by
      rw [← List.map_reverse, List.reverse_reverse, ← List.map_append, List.take_append_drop]
    refine zk_run (r := zq_J x) (rest := (st.drop n).map (zk_c E.1)) (va_runS (n := n) (As := (st.take n).reverse.map (zk_c E.1)) ⟨hx, hb, hml, hown, hts⟩ hMet ⟨callB_of n hts (zk_good m2) rfl m5 m6 (hts _ m4) (hts _ h1) m7 (by rw [← hR] at hr; exact hr), hts _ m3⟩ ⟨zk_blind, fun U hU hWm => ⟨rfl, by rw [hU]; exact hW, va_K.moved hWm.alike hK⟩⟩ rfl (by simp; omega) hL.2.2.1 hstk (lv_room (by rw [zk_sz_c]; exact hc.2)) hd ⟨Nat.zero_le _, Nat.zero_le _⟩) hS (fun H1 locs1 hW1 hS1 => ?_)
    exact hk H1 locs1 ls L _ _ r hx2 hL (zk_wcons trivial (fun v hv => hst v (List.mem_of_mem_drop hv))) hW1 hS1
  · rw [if_neg hc] at h; cases h
theorem zs_vJ {X : ZX} {E : ZE} {own : String} {cc : ByteArray} {nL : Nat} {ret : Option FieldType} {rm : Room} {ρ : Type} {q : ρ → ZR} {pc : Nat} {κ : ZK ρ} {idx n nL1 ci : Nat} {y : MethodName} {cc1 : ByteArray} {ret1 : Option FieldType} {rm1 : Room} {G : List ZV → ZM → Option (Int64 × ZM)} (C : zk_X X E own cc nL ret rm) (hd : decode cc pc = .ok (.invokevirtual idx, 3)) (M : zk_MV y cc1 nL1 ret1 rm1 zq_J G n ci) (h1 : Cond.methodLink own idx y ∈ zk_T) (hr : rm1.frames + 1 ≤ rm.frames ∧ 8 + (nL1 + 11) + rm1.locals ≤ rm.locals) (hk : zk_S X E nL q (pc + 3) κ) : zk_S X E nL q (pc) (zi_cJ (n + 1) G κ) := by
  obtain ⟨p, l, e, R, s, m, args, below, meth, c⟩ := X
  obtain ⟨hx, hb, hml, hown, hts, hK, hlk, hrt, hok, hR⟩ := C
  intro H locs ls L st μ r h hL hst hW hS
  obtain ⟨m1, m2, m3, m4, m5, m6, m7, m8, m9, ⟨T, N, m10⟩, m11⟩ := M
  unfold zi_cJ at h
  by_cases hc : (decide (n + 1 ≤ st.length) && decide (zk_sz (st.drop (n + 1)) ≤ 8)) = true
  · rw [if_pos hc] at h
    simp only [Bool.and_eq_true, decide_eq_true_eq] at hc
    obtain ⟨x, hx1, hx2⟩ := Option.bind_eq_some_iff.mp h
    have hes := zk_tk (st := st) (n := n + 1) rfl
    have hwa : ∀ v ∈ (st.take (n + 1)).reverse, zk_w E v := fun v hv => hst v (List.mem_of_mem_take (List.mem_reverse.mp hv))
    have hMet := m1 l E _ μ x hx1 hok hwa
    obtain ⟨k, As, hAs⟩ := m11 _ _ _ hx1
    rw [hAs] at hMet hwa hes
    have hlA : As.length = n := by
      have e0 := congrArg List.length hAs
      simp at e0
      omega
    have hk1 : E.2.2.2.1[k]? = some ci := zk_whd hwa
    have he := zk_at μ hk1
    rw [zk_Eo m9] at he
    have hstk : st.map (zk_c E.1) = (As.map (zk_c E.1)).reverse ++ .ref (E.1 k) :: (st.drop (n + 1)).map (zk_c E.1) := by
      conv => lhs; rw [hes]
      simp [zk_c]
    refine zk_run (r := zq_J x) (rest := (st.drop (n + 1)).map (zk_c E.1)) (va_runV (n := n) (C := y.cls) (b := E.1 k) (As := As.map (zk_c E.1)) ⟨hx, hb, hml, hown, hts⟩ hMet ⟨callB_of n hts (zk_good m2) rfl m6 m7 (hts _ m5) (hts _ h1) m8 (by rw [← hR] at hr; exact hr), hts _ m3, hts _ m4⟩ ⟨zk_blind, va_recv hK hW.1 m10 he, fun U hU hWm => ⟨rfl, by rw [hU]; exact hW, va_K.moved hWm.alike hK⟩⟩ rfl (by simp [hlA]) hL.2.2.1 hstk (lv_room (by rw [zk_sz_c]; exact hc.2)) hd ⟨Nat.zero_le _, Nat.zero_le _⟩) hS (fun H1 locs1 hW1 hS1 => ?_)
    exact hk H1 locs1 ls L _ _ r hx2 hL (zk_wcons trivial (fun v hv => hst v (List.mem_of_mem_drop hv))) hW1 hS1
  · rw [if_neg hc] at h; cases h
def zi_cV {ρ : Type} (n : Nat) (G : List ZV → ZM → Option (ZM)) (κ : ZK ρ) : ZK ρ := fun L st μ => if (decide (n ≤ st.length) && decide (zk_sz (st.drop n) ≤ 8)) = true then (G (st.take n).reverse μ).bind (fun x => κ L (st.drop n) x) else none
theorem zs_sV {X : ZX} {E : ZE} {own : String} {cc : ByteArray} {nL : Nat} {ret : Option FieldType} {rm : Room} {ρ : Type} {q : ρ → ZR} {pc : Nat} {κ : ZK ρ} {idx n nL1 : Nat} {y : MethodName} {cc1 : ByteArray} {ret1 : Option FieldType} {rm1 : Room} {G : List ZV → ZM → Option (ZM)} (C : zk_X X E own cc nL ret rm) (hd : decode cc pc = .ok (.invokestatic idx, 3)) (M : zk_MS y cc1 nL1 ret1 rm1 zq_V G n) (h1 : Cond.methodLink own idx y ∈ zk_T) (hr : rm1.frames + 1 ≤ rm.frames ∧ 8 + (nL1 + 11) + rm1.locals ≤ rm.locals) (hk : zk_S X E nL q (pc + 3) κ) : zk_S X E nL q (pc) (zi_cV n G κ) := by
  obtain ⟨p, l, e, R, s, m, args, below, meth, c⟩ := X
  obtain ⟨hx, hb, hml, hown, hts, hK, hlk, hrt, hok, hR⟩ := C
  intro H locs ls L st μ r h hL hst hW hS
  obtain ⟨m1, m2, m3, m4, m5, m6, m7⟩ := M
  unfold zi_cV at h
  by_cases hc : (decide (n ≤ st.length) && decide (zk_sz (st.drop n) ≤ 8)) = true
  · rw [if_pos hc] at h
    simp only [Bool.and_eq_true, decide_eq_true_eq] at hc
    obtain ⟨x, hx1, hx2⟩ := Option.bind_eq_some_iff.mp h
    have hes := zk_tk (st := st) (n := n) rfl
    have hwa : ∀ v ∈ (st.take n).reverse, zk_w E v := fun v hv => hst v (List.mem_of_mem_take (List.mem_reverse.mp hv))
    have hMet := m1 l E _ μ x hx1 hok hwa
    have hstk : st.map (zk_c E.1) = ((st.take n).reverse.map (zk_c E.1)).reverse ++ (st.drop n).map (zk_c E.1) := by
      rw [← List.map_reverse, List.reverse_reverse, ← List.map_append, List.take_append_drop]
    refine zk_run (r := zq_V x) (rest := (st.drop n).map (zk_c E.1)) (va_runS (n := n) (As := (st.take n).reverse.map (zk_c E.1)) ⟨hx, hb, hml, hown, hts⟩ hMet ⟨callB_of n hts (zk_good m2) rfl m5 m6 (hts _ m4) (hts _ h1) m7 (by rw [← hR] at hr; exact hr), hts _ m3⟩ ⟨zk_blind, fun U hU hWm => ⟨rfl, by rw [hU]; exact hW, va_K.moved hWm.alike hK⟩⟩ rfl (by simp; omega) hL.2.2.1 hstk (lv_room (by rw [zk_sz_c]; exact hc.2)) hd ⟨Nat.zero_le _, Nat.zero_le _⟩) hS (fun H1 locs1 hW1 hS1 => ?_)
    exact hk H1 locs1 ls L _ _ r hx2 hL (fun v hv => hst v (List.mem_of_mem_drop hv)) hW1 hS1
  · rw [if_neg hc] at h; cases h
theorem zs_vV {X : ZX} {E : ZE} {own : String} {cc : ByteArray} {nL : Nat} {ret : Option FieldType} {rm : Room} {ρ : Type} {q : ρ → ZR} {pc : Nat} {κ : ZK ρ} {idx n nL1 ci : Nat} {y : MethodName} {cc1 : ByteArray} {ret1 : Option FieldType} {rm1 : Room} {G : List ZV → ZM → Option (ZM)} (C : zk_X X E own cc nL ret rm) (hd : decode cc pc = .ok (.invokevirtual idx, 3)) (M : zk_MV y cc1 nL1 ret1 rm1 zq_V G n ci) (h1 : Cond.methodLink own idx y ∈ zk_T) (hr : rm1.frames + 1 ≤ rm.frames ∧ 8 + (nL1 + 11) + rm1.locals ≤ rm.locals) (hk : zk_S X E nL q (pc + 3) κ) : zk_S X E nL q (pc) (zi_cV (n + 1) G κ) := by
  obtain ⟨p, l, e, R, s, m, args, below, meth, c⟩ := X
  obtain ⟨hx, hb, hml, hown, hts, hK, hlk, hrt, hok, hR⟩ := C
  intro H locs ls L st μ r h hL hst hW hS
  obtain ⟨m1, m2, m3, m4, m5, m6, m7, m8, m9, ⟨T, N, m10⟩, m11⟩ := M
  unfold zi_cV at h
  by_cases hc : (decide (n + 1 ≤ st.length) && decide (zk_sz (st.drop (n + 1)) ≤ 8)) = true
  · rw [if_pos hc] at h
    simp only [Bool.and_eq_true, decide_eq_true_eq] at hc
    obtain ⟨x, hx1, hx2⟩ := Option.bind_eq_some_iff.mp h
    have hes := zk_tk (st := st) (n := n + 1) rfl
    have hwa : ∀ v ∈ (st.take (n + 1)).reverse, zk_w E v := fun v hv => hst v (List.mem_of_mem_take (List.mem_reverse.mp hv))
    have hMet := m1 l E _ μ x hx1 hok hwa
    obtain ⟨k, As, hAs⟩ := m11 _ _ _ hx1
    rw [hAs] at hMet hwa hes
    have hlA : As.length = n := by
      have e0 := congrArg List.length hAs
      simp at e0
      omega
    have hk1 : E.2.2.2.1[k]? = some ci := zk_whd hwa
    have he := zk_at μ hk1
    rw [zk_Eo m9] at he
    have hstk : st.map (zk_c E.1) = (As.map (zk_c E.1)).reverse ++ .ref (E.1 k) :: (st.drop (n + 1)).map (zk_c E.1) := by
      conv => lhs; rw [hes]
      simp [zk_c]
    refine zk_run (r := zq_V x) (rest := (st.drop (n + 1)).map (zk_c E.1)) (va_runV (n := n) (C := y.cls) (b := E.1 k) (As := As.map (zk_c E.1)) ⟨hx, hb, hml, hown, hts⟩ hMet ⟨callB_of n hts (zk_good m2) rfl m6 m7 (hts _ m5) (hts _ h1) m8 (by rw [← hR] at hr; exact hr), hts _ m3, hts _ m4⟩ ⟨zk_blind, va_recv hK hW.1 m10 he, fun U hU hWm => ⟨rfl, by rw [hU]; exact hW, va_K.moved hWm.alike hK⟩⟩ rfl (by simp [hlA]) hL.2.2.1 hstk (lv_room (by rw [zk_sz_c]; exact hc.2)) hd ⟨Nat.zero_le _, Nat.zero_le _⟩) hS (fun H1 locs1 hW1 hS1 => ?_)
    exact hk H1 locs1 ls L _ _ r hx2 hL (fun v hv => hst v (List.mem_of_mem_drop hv)) hW1 hS1
  · rw [if_neg hc] at h; cases h
def zk_pk {ρ : Type} (x : Int32) (d : ZK ρ) : List (Int32 × ZK ρ) → ZK ρ
  | [] => d
  | c :: cs => fun L st μ => if x = c.1 then c.2 L st μ else zk_pk x d cs L st μ
def zi_sw {ρ : Type} (cs : List (Int32 × ZK ρ)) (d : ZK ρ) : ZK ρ := fun L st μ => match st with
  | .inl x :: st => zk_pk x d cs L st μ
  | _ => none
theorem zk_pk_or {ρ : Type} (x : Int32) (d : ZK ρ) : ∀ (cs : List (Int32 × ZK ρ)) (L : ZL) (st : List ZV) (μ : ZM), (∃ c ∈ cs, x = c.1 ∧ zk_pk x d cs L st μ = c.2 L st μ) ∨ ((∀ c ∈ cs, x ≠ c.1) ∧ zk_pk x d cs L st μ = d L st μ)
  | [], L, st, μ => Or.inr ⟨fun _ h => absurd h List.not_mem_nil, rfl⟩
  | c :: cs, L, st, μ => by
    by_cases h : x = c.1
    · exact Or.inl ⟨c, List.mem_cons_self, h, by show (if x = c.1 then c.2 L st μ else zk_pk x d cs L st μ) = _; rw [if_pos h]⟩
    · rcases zk_pk_or x d cs L st μ with ⟨c', h1, h2, h3⟩ | ⟨h1, h2⟩
      · exact Or.inl ⟨c', List.mem_cons_of_mem _ h1, h2, by show (if x = c.1 then c.2 L st μ else zk_pk x d cs L st μ) = _; rw [if_neg h, h3]⟩
      · exact Or.inr ⟨fun c' hc => (List.mem_cons.mp hc).elim (fun z => z ▸ h) (h1 c'), by show (if x = c.1 then c.2 L st μ else zk_pk x d cs L st μ) = _; rw [if_neg h, h2]⟩

theorem zs_tab {X : ZX} {E : ZE} {own : String} {cc : ByteArray} {nL : Nat} {ret : Option FieldType} {rm : Room} {ρ : Type} {q : ρ → ZR} {pc : Nat} {κd : ZK ρ} {cs : List (Int32 × ZK ρ)} {tg : Int32 → Nat} {dflt lo hi : Int} {offs : Array Int} {len tgt : Nat} {xs : List Int32} (C : zk_X X E own cc nL ret rm) (hd : decode cc pc = .ok (.tableswitch dflt lo hi offs, len)) (hs : (hi + 1 - lo).toNat = offs.size) (ht : (pc : Int) + dflt = (tgt : Int)) (hxs : cs.map (fun c => c.1) = xs)
    (hc1 : ∀ x ∈ xs, lo ≤ x.toInt ∧ x.toInt ≤ hi ∧ offs[(x.toInt - lo).toNat]? = some ((tg x : Int) - pc)) (hc2 : ∀ j, j < offs.size → (lo + (j : Int)) ∈ xs.map (fun x => x.toInt) ∨ offs[j]? = some dflt)
    (hk1 : ∀ c ∈ cs, zk_S X E nL q (tg c.1) c.2) (hk2 : zk_S X E nL q tgt κd) : zk_S X E nL q pc (zi_sw cs κd) := by
  subst hxs
  obtain ⟨p, l, e, R, s, m, args, below, meth, c⟩ := X
  obtain ⟨hx, hb, hml, hown, hts, hK, hlk, hrt, hok, hR⟩ := C
  intro H locs ls L st μ r h hL hst hW hS
  unfold zi_sw at h
  split at h
  · rename_i x st
    rcases zk_pk_or x κd cs L st μ with ⟨c1, h1, h2, h3⟩ | ⟨h1, h2⟩
    · rw [h3] at h
      obtain ⟨g1, g2, g3⟩ := hc1 c1.1 (List.mem_map.mpr ⟨c1, h1, rfl⟩)
      subst h2
      exact lv_tableIn hx hb hd (by omega) (by omega) g3 (by omega) (hk1 c1 h1 H locs ls L st μ r h hL (zk_wtl hst) hW hS)
    · rw [h2] at h
      have hno : ∀ y ∈ (cs.map (fun c => c.1)).map (fun x => x.toInt), x.toInt ≠ y := by
        intro y hy
        obtain ⟨z, hz, rfl⟩ := List.mem_map.mp hy
        obtain ⟨c1, hc, rfl⟩ := List.mem_map.mp hz
        exact fun e => h1 c1 hc (Int32.toInt_inj.mp e)
      have kk := hk2 H locs ls L st μ r h hL (zk_wtl hst) hW hS
      by_cases hr : x.toInt < lo ∨ hi < x.toInt
      · exact lv_tableOut hx hb hd hr ht kk
      · have hj : (x.toInt - lo).toNat < offs.size := by omega
        rcases hc2 _ hj with g | g
        · exact absurd (show x.toInt = lo + ((x.toInt - lo).toNat : Int) by omega) (hno _ g)
        · exact lv_tableIn hx hb hd (by omega) (by omega) g ht kk
  · cases h
theorem zs_look {X : ZX} {E : ZE} {own : String} {cc : ByteArray} {nL : Nat} {ret : Option FieldType} {rm : Room} {ρ : Type} {q : ρ → ZR} {pc : Nat} {κd : ZK ρ} {cs : List (Int32 × ZK ρ)} {tg : Int32 → Nat} {dflt : Int} {ps : Array (Int × Int)} {len tgt : Nat} {xs : List Int32} (hxs : cs.map (fun c => c.1) = xs) (C : zk_X X E own cc nL ret rm) (hd : decode cc pc = .ok (.lookupswitch dflt ps, len)) (hp : (ps.toList.zip (ps.toList.drop 1)).all (fun (a, next) => a.1 < next.1) = true) (ht : (pc : Int) + dflt = (tgt : Int))
    (hc1 : ∀ x ∈ xs, Op.lookupswitch.offset ps.toList dflt x.toInt = (tg x : Int) - pc) (hc2 : ∀ z : Int, z ∉ xs.map (fun x => x.toInt) → Op.lookupswitch.offset ps.toList dflt z = dflt)
    (hk1 : ∀ c ∈ cs, zk_S X E nL q (tg c.1) c.2) (hk2 : zk_S X E nL q tgt κd) : zk_S X E nL q pc (zi_sw cs κd) := by
  subst hxs
  obtain ⟨p, l, e, R, s, m, args, below, meth, c⟩ := X
  obtain ⟨hx, hb, hml, hown, hts, hK, hlk, hrt, hok, hR⟩ := C
  intro H locs ls L st μ r h hL hst hW hS
  unfold zi_sw at h
  split at h
  · rename_i x st
    rcases zk_pk_or x κd cs L st μ with ⟨c1, h1, h2, h3⟩ | ⟨h1, h2⟩
    · rw [h3] at h
      have g3 := hc1 c1.1 (List.mem_map.mpr ⟨c1, h1, rfl⟩)
      subst h2
      exact lv_lookup hx hb hd hp g3 (by omega) (hk1 c1 h1 H locs ls L st μ r h hL (zk_wtl hst) hW hS)
    · rw [h2] at h
      have hno : x.toInt ∉ (cs.map (fun c => c.1)).map (fun x => x.toInt) := by
        intro hy
        obtain ⟨z, hz, e⟩ := List.mem_map.mp hy
        obtain ⟨c1, hc, rfl⟩ := List.mem_map.mp hz
        exact h1 c1 hc (Int32.toInt_inj.mp e.symm)
      exact lv_lookup hx hb hd hp (hc2 _ hno) ht (hk2 H locs ls L st μ r h hL (zk_wtl hst) hW hS)
  · cases h
/-- the locals at a method's entry -/
def zk_en : List ZV → ZL
  | [] => []
  | .inr (.inl y) :: l => some (.inr (.inl y)) :: none :: zk_en l
  | v :: l => some v :: zk_en l
def zk_pad (n : Nat) (l : ZL) : ZL := l ++ List.replicate (n - l.length) none
theorem zk_nth_app : ∀ (l : ZL) (n i : Nat) (v : ZV), zk_nth (l ++ List.replicate n none) i = some v → zk_nth l i = some v
  | [], n, i, v, h => by
    induction n generalizing i with
    | zero => cases h
    | succ n ih =>
      cases i with
      | zero => cases h
      | succ i => exact ih i h
  | a :: l, n, 0, v, h => h
  | a :: l, n, i + 1, v, h => zk_nth_app l n i v h
theorem zk_en_nth (ad : Nat → Nat) : ∀ (as : List ZV) (b i : Nat) (v : ZV), zk_nth (zk_en as) i = some v → v ∈ as ∧ (b + i, zk_c ad v) ∈ lv_args b (as.map (zk_c ad))
  | [], b, i, v, h => by cases h
  | .inl x :: l, b, 0, v, h => by cases h; exact ⟨List.mem_cons_self, List.mem_cons_self⟩
  | .inr (.inr x) :: l, b, 0, v, h => by cases h; exact ⟨List.mem_cons_self, List.mem_cons_self⟩
  | .inr (.inl x) :: l, b, 0, v, h => by cases h; exact ⟨List.mem_cons_self, List.mem_cons_self⟩
  | .inl x :: l, b, i + 1, v, h => by
    obtain ⟨h1, h2⟩ := zk_en_nth ad l (b + 1) i v h
    exact ⟨List.mem_cons_of_mem _ h1, List.mem_cons_of_mem _ (by rw [show b + (i + 1) = b + 1 + i by omega]; exact h2)⟩
  | .inr (.inr x) :: l, b, i + 1, v, h => by
    obtain ⟨h1, h2⟩ := zk_en_nth ad l (b + 1) i v h
    exact ⟨List.mem_cons_of_mem _ h1, List.mem_cons_of_mem _ (by rw [show b + (i + 1) = b + 1 + i by omega]; exact h2)⟩
  | .inr (.inl x) :: l, b, 1, v, h => by cases h
  | .inr (.inl x) :: l, b, i + 2, v, h => by
    obtain ⟨h1, h2⟩ := zk_en_nth ad l (b + 2) i v h
    exact ⟨List.mem_cons_of_mem _ h1, List.mem_cons_of_mem _ (by rw [show b + (i + 2) = b + 2 + i by omega]; exact h2)⟩
theorem zk_en_len (ad : Nat → Nat) : ∀ as : List ZV, (lg_sl (as.map (zk_c ad))).length = (zk_en as).length
  | [] => rfl
  | .inl x :: l => by
    have := zk_en_len ad l
    simp only [lg_sl, List.map_cons, List.flatMap_cons, zk_en, List.length_cons, List.length_append] at *
    rw [this]; simp [zk_c, Value.category]; omega
  | .inr (.inr x) :: l => by
    have := zk_en_len ad l
    simp only [lg_sl, List.map_cons, List.flatMap_cons, zk_en, List.length_cons, List.length_append] at *
    rw [this]; simp [zk_c, Value.category]; omega
  | .inr (.inl x) :: l => by
    have := zk_en_len ad l
    simp only [lg_sl, List.map_cons, List.flatMap_cons, zk_en, List.length_cons, List.length_append] at *
    rw [this]; simp [zk_c, Value.category]; omega
/-- a contract out of a body -/
theorem zk_met {σ : Type} {y : MethodName} {cc : ByteArray} {nL : Nat} {ret : Option FieldType} {rm : Room} {q : σ → ZR} {G : List ZV → ZM → Option σ} (κ : ZK σ) (hy : plainName y.cls = true) (hG : ∀ as μ r, G as μ = some r → (zk_en as).length ≤ nL ∧ κ (zk_pad nL (zk_en as)) [] μ = some r)
    (body : ∀ X E, zk_X X E y.cls cc nL ret rm → zk_S X E nL q 0 κ) : zk_C y cc nL ret rm q G := by
  intro l E as μ r h hok hwa
  obtain ⟨hlen, hκ⟩ := hG as μ r h
  refine Met.ofW (cc := cc) (maxL := nL) (ret := ret) hy rfl ?_
  intro p e s m args below meth c s₁ B hml hv
  obtain ⟨rfl, hW, hK⟩ := hv
  have hts := atoms_spec (ws := .code y cc nL ret :: zk_T) B.pre
  have hown : s.vm.findClass y.cls = some m.cls := findClass_of_methodNamed B.named
  have hl := lv_entry (as.map (zk_c E.1)) (n := nL) (by rw [zk_en_len]; exact hlen)
  rw [lg_entry_eq]
  generalize (lg_sl (as.map (zk_c E.1)) ++ List.replicate (nL - (lg_sl (as.map (zk_c E.1))).length) Slot.unset).toArray = ls at hl ⊢
  have hL : zk_L E ls nL (zk_pad nL (zk_en as)) := by
    refine ⟨by simp [zk_pad]; omega, fun i v hi => hwa v (zk_en_nth E.1 as 0 i v (zk_nth_app _ _ i v hi)).1, hl.1, hl.2.1, fun z hz => ?_⟩
    obtain ⟨j, w, h1, h2⟩ := (zk_lv_mem E.1 _ 0 z).mp hz
    rw [h2]
    exact hl.2.2 _ (zk_en_nth E.1 as 0 j w (zk_nth_app _ _ j w h1)).2
  exact body (p, l, e, rm, s, m, _, below, meth, c) E ⟨B.exec, B.bytes, hml, hown, fun w hw => hts w (List.mem_cons_of_mem _ hw), hK, B.notSynchronized, B.returns, hok, rfl⟩ s.heap [] ls _ [] μ r hκ hL (fun _ h => absurd h List.not_mem_nil) hW va_S.rf
