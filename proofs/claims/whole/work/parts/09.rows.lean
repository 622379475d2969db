-- memory
def zk_si (μ : ZM) (k j : Nat) (v : Int32) : ZM := (fun q => if q = k then upd (μ.1 k) j v else μ.1 q, μ.2)
def zk_sj (μ : ZM) (k j : Nat) (v : Int64) : ZM := (μ.1, fun q => if q = k then vp_updL (μ.2 k) j v else μ.2 q)
def zk_ci (μ : ZM) (k0 k1 sp dp n : Nat) : ZM := (fun q => if q = k1 then va_cpy (μ.1 k0) (μ.1 k1) sp dp n else μ.1 q, μ.2)
def zk_cj (μ : ZM) (k0 k1 sp dp n : Nat) : ZM := (μ.1, fun q => if q = k1 then va_cpy (μ.2 k0) (μ.2 k1) sp dp n else μ.2 q)
/-- an index outside -/
def zk_o (i : Int32) (n : Nat) : Bool := decide (i < 0 ∨ n ≤ i.toNatClampNeg)
theorem zk_o_in {i : Int32} {n : Nat} (h : ¬ zk_o i n = true) : vp_in i n := fun h1 => h (by simpa [zk_o] using h1)
theorem zk_at {E : ZE} (μ : ZM) {k kd : Nat} (h : E.2.2.2.1[k]? = some kd) : (zk_ws E μ)[k]? = some (E.1 k, zk_E E μ k kd) := by simp [zk_ws, List.getElem?_mapIdx, h]
theorem zk_E_same {E : ZE} {μ μ' : ZM} {k : Nat} (kd : Nat) (h : μ'.1 k = μ.1 k ∧ μ'.2 k = μ.2 k) : zk_E E μ' k kd = zk_E E μ k kd := by
  have e : zk_fs E.1 μ' k kd = zk_fs E.1 μ k kd := by
    unfold zk_fs
    congr 1
    funext j o
    cases o <;> simp [zk_f1, h.1]
  simp only [zk_E, h.1, h.2, e]
theorem zk_set {E : ZE} {μ μ' : ZM} {k kd : Nat} (h : E.2.2.2.1[k]? = some kd) (ho : ∀ j, j ≠ k → μ'.1 j = μ.1 j ∧ μ'.2 j = μ.2 j) : (zk_ws E μ).set k (E.1 k, zk_E E μ' k kd) = zk_ws E μ' := by
  apply List.ext_getElem?
  intro i
  by_cases e : i = k
  · subst e
    rw [zk_at μ' h, List.getElem?_set_self (List.getElem?_eq_some_iff.mp (zk_at μ h)).1]
  · rw [List.getElem?_set_ne (Ne.symm e)]
    cases hk : E.2.2.2.1[i]? with
    | none => simp [zk_ws, List.getElem?_mapIdx, hk]
    | some kd' => rw [zk_at μ hk, zk_at μ' hk, zk_E_same kd' (ho i e)]
theorem zk_fs_at {ad : Nat → Nat} {μ : ZM} {k kd j : Nat} {o : Option (Nat × Nat)} (h : (zk_fl kd)[j]? = some o) : (zk_fs ad μ k kd)[j]? = some (zk_f1 ad μ k j o) := by simp [zk_fs, List.getElem?_mapIdx, h]
theorem zk_fs_set {ad : Nat → Nat} {μ : ZM} {k kd j : Nat} {v : Int32} (h : (zk_fl kd)[j]? = some none) : (zk_fs ad μ k kd).set j (.int v) = zk_fs ad (zk_si μ k j v) k kd := by
  apply List.ext_getElem?
  intro i
  by_cases e : i = j
  · subst e
    rw [List.getElem?_set_self (List.getElem?_eq_some_iff.mp (zk_fs_at (ad := ad) (μ := μ) (k := k) h)).1, zk_fs_at h]
    simp [zk_f1, zk_si, upd]
  · rw [List.getElem?_set_ne (Ne.symm e)]
    cases hk : (zk_fl kd)[i]? with
    | none => simp [zk_fs, List.getElem?_mapIdx, hk]
    | some q =>
      rw [zk_fs_at hk, zk_fs_at hk]
      cases q <;> simp [zk_f1, zk_si, upd, e]
theorem zk_si_o {μ : ZM} {k j : Nat} {v : Int32} : ∀ i, i ≠ k → (zk_si μ k j v).1 i = μ.1 i ∧ (zk_si μ k j v).2 i = μ.2 i := fun i h => ⟨by simp [zk_si, h], rfl⟩
theorem zk_sj_o {μ : ZM} {k j : Nat} {v : Int64} : ∀ i, i ≠ k → (zk_sj μ k j v).1 i = μ.1 i ∧ (zk_sj μ k j v).2 i = μ.2 i := fun i h => ⟨rfl, by simp [zk_sj, h]⟩
theorem zk_ci_o {μ : ZM} {k0 k j a n : Nat} : ∀ i, i ≠ k → (zk_ci μ k0 k j a n).1 i = μ.1 i ∧ (zk_ci μ k0 k j a n).2 i = μ.2 i := fun i h => ⟨by simp [zk_ci, h], rfl⟩
theorem zk_cj_o {μ : ZM} {k0 k j a n : Nat} : ∀ i, i ≠ k → (zk_cj μ k0 k j a n).1 i = μ.1 i ∧ (zk_cj μ k0 k j a n).2 i = μ.2 i := fun i h => ⟨rfl, by simp [zk_cj, h]⟩
theorem zk_wcons {E : ZE} {v : ZV} {st : List ZV} (hv : zk_w E v) (h : ∀ w ∈ st, zk_w E w) : ∀ w ∈ v :: st, zk_w E w := fun w hw => (List.mem_cons.mp hw).elim (fun e => e ▸ hv) (h w)
theorem zk_wtl {E : ZE} {v : ZV} {st : List ZV} (h : ∀ w ∈ v :: st, zk_w E w) : ∀ w ∈ st, zk_w E w := fun w hw => h w (List.mem_cons_of_mem _ hw)
theorem zk_whd {E : ZE} {v : ZV} {st : List ZV} (h : ∀ w ∈ v :: st, zk_w E w) : zk_w E v := h v List.mem_cons_self

def zi_p {ρ : Type} (v : ZV) (κ : ZK ρ) : ZK ρ := fun L st μ => κ L (v :: st) μ
theorem zs_iconst {X : ZX} {E : ZE} {own : String} {cc : ByteArray} {nL : Nat} {ret : Option FieldType} {rm : Room} {ρ : Type} {q : ρ → ZR} {pc : Nat} {κ : ZK ρ} {n : Int} {v : Int32} (C : zk_X X E own cc nL ret rm) (hd : decode cc pc = .ok (.iconst n, 1)) (hv : Int32.ofInt n = v) (hk : zk_S X E nL q (pc + 1) κ) : zk_S X E nL q (pc) (zi_p (.inl v) κ) := by
  obtain ⟨p, l, e, R, s, m, args, below, meth, c⟩ := X
  obtain ⟨hx, hb, hml, hown, hts, hK, hlk, hrt, hok, hR⟩ := C
  intro H locs ls L st μ r h hL hst hW hS
  exact lv_iconst hx hb hd hv (hk H locs ls L (.inl v :: st) μ r h hL (zk_wcons trivial hst) hW hS)
theorem zs_bipush {X : ZX} {E : ZE} {own : String} {cc : ByteArray} {nL : Nat} {ret : Option FieldType} {rm : Room} {ρ : Type} {q : ρ → ZR} {pc : Nat} {κ : ZK ρ} {n : Int} {v : Int32} (C : zk_X X E own cc nL ret rm) (hd : decode cc pc = .ok (.bipush n, 2)) (hv : (Int8.ofInt n).toInt32 = v) (hk : zk_S X E nL q (pc + 2) κ) : zk_S X E nL q (pc) (zi_p (.inl v) κ) := by
  obtain ⟨p, l, e, R, s, m, args, below, meth, c⟩ := X
  obtain ⟨hx, hb, hml, hown, hts, hK, hlk, hrt, hok, hR⟩ := C
  intro H locs ls L st μ r h hL hst hW hS
  exact lv_bipush hx hb hd hv (hk H locs ls L (.inl v :: st) μ r h hL (zk_wcons trivial hst) hW hS)
theorem zs_sipush {X : ZX} {E : ZE} {own : String} {cc : ByteArray} {nL : Nat} {ret : Option FieldType} {rm : Room} {ρ : Type} {q : ρ → ZR} {pc : Nat} {κ : ZK ρ} {n : Int} {v : Int32} (C : zk_X X E own cc nL ret rm) (hd : decode cc pc = .ok (.sipush n, 3)) (hv : (Int16.ofInt n).toInt32 = v) (hk : zk_S X E nL q (pc + 3) κ) : zk_S X E nL q (pc) (zi_p (.inl v) κ) := by
  obtain ⟨p, l, e, R, s, m, args, below, meth, c⟩ := X
  obtain ⟨hx, hb, hml, hown, hts, hK, hlk, hrt, hok, hR⟩ := C
  intro H locs ls L st μ r h hL hst hW hS
  exact lv_sipush hx hb hd hv (hk H locs ls L (.inl v :: st) μ r h hL (zk_wcons trivial hst) hW hS)
theorem zs_lconst {X : ZX} {E : ZE} {own : String} {cc : ByteArray} {nL : Nat} {ret : Option FieldType} {rm : Room} {ρ : Type} {q : ρ → ZR} {pc : Nat} {κ : ZK ρ} {n : Fin 2} {v : Int64} (C : zk_X X E own cc nL ret rm) (hd : decode cc pc = .ok (.lconst n, 1)) (hv : Int64.ofNat (n : Nat) = v) (hk : zk_S X E nL q (pc + 1) κ) : zk_S X E nL q (pc) (zi_p (.inr (.inl v)) κ) := by
  obtain ⟨p, l, e, R, s, m, args, below, meth, c⟩ := X
  obtain ⟨hx, hb, hml, hown, hts, hK, hlk, hrt, hok, hR⟩ := C
  intro H locs ls L st μ r h hL hst hW hS
  exact lv_lconst hx hb hd hv (hk H locs ls L (.inr (.inl v) :: st) μ r h hL (zk_wcons trivial hst) hW hS)
theorem zs_ldc {X : ZX} {E : ZE} {own : String} {cc : ByteArray} {nL : Nat} {ret : Option FieldType} {rm : Room} {ρ : Type} {q : ρ → ZR} {pc : Nat} {κ : ZK ρ} {index : Nat} {v : Int32} (C : zk_X X E own cc nL ret rm) (hd : decode cc pc = .ok (.ldc index, 2)) (hw : Cond.constant own index v ∈ zk_T) (hk : zk_S X E nL q (pc + 2) κ) : zk_S X E nL q (pc) (zi_p (.inl v) κ) := by
  obtain ⟨p, l, e, R, s, m, args, below, meth, c⟩ := X
  obtain ⟨hx, hb, hml, hown, hts, hK, hlk, hrt, hok, hR⟩ := C
  intro H locs ls L st μ r h hL hst hW hS
  exact lv_ldc hx hb hown (hts _ hw) hd (hk H locs ls L (.inl v :: st) μ r h hL (zk_wcons trivial hst) hW hS)
theorem zs_ldc2 {X : ZX} {E : ZE} {own : String} {cc : ByteArray} {nL : Nat} {ret : Option FieldType} {rm : Room} {ρ : Type} {q : ρ → ZR} {pc : Nat} {κ : ZK ρ} {index : Nat} {v : Int64} (C : zk_X X E own cc nL ret rm) (hd : decode cc pc = .ok (.ldc2_w index, 3)) (hw : Cond.constantLong own index v ∈ zk_T) (hk : zk_S X E nL q (pc + 3) κ) : zk_S X E nL q (pc) (zi_p (.inr (.inl v)) κ) := by
  obtain ⟨p, l, e, R, s, m, args, below, meth, c⟩ := X
  obtain ⟨hx, hb, hml, hown, hts, hK, hlk, hrt, hok, hR⟩ := C
  intro H locs ls L st μ r h hL hst hW hS
  exact lv_ldc2 hx hb hown (hts _ hw) hd (hk H locs ls L (.inr (.inl v) :: st) μ r h hL (zk_wcons trivial hst) hW hS)
theorem zs_ldcw {X : ZX} {E : ZE} {own : String} {cc : ByteArray} {nL : Nat} {ret : Option FieldType} {rm : Room} {ρ : Type} {q : ρ → ZR} {pc : Nat} {κ : ZK ρ} {index : Nat} {v : Int32} (C : zk_X X E own cc nL ret rm) (hd : decode cc pc = .ok (.ldc_w index, 3)) (hw : Cond.constant own index v ∈ zk_T) (hk : zk_S X E nL q (pc + 3) κ) : zk_S X E nL q (pc) (zi_p (.inl v) κ) := by
  obtain ⟨p, l, e, R, s, m, args, below, meth, c⟩ := X
  obtain ⟨hx, hb, hml, hown, hts, hK, hlk, hrt, hok, hR⟩ := C
  intro H locs ls L st μ r h hL hst hW hS
  exact lv_ldcw hx hb hown (hts _ hw) hd (hk H locs ls L (.inl v :: st) μ r h hL (zk_wcons trivial hst) hW hS)
def zi_iload {ρ : Type} (i : Nat) (κ : ZK ρ) : ZK ρ := fun L st μ => match zk_nth L i with
  | some (.inl x) => κ L (.inl x :: st) μ
  | _ => none
theorem zs_iload_n {X : ZX} {E : ZE} {own : String} {cc : ByteArray} {nL : Nat} {ret : Option FieldType} {rm : Room} {ρ : Type} {q : ρ → ZR} {pc : Nat} {κ : ZK ρ} {k : Fin 4} {i : Nat} (C : zk_X X E own cc nL ret rm) (hd : decode cc pc = .ok (.iload_n k, 1)) (hi : (k : Nat) = i) (hk : zk_S X E nL q (pc + 1) κ) : zk_S X E nL q (pc) (zi_iload i κ) := by
  obtain ⟨p, l, e, R, s, m, args, below, meth, c⟩ := X
  obtain ⟨hx, hb, hml, hown, hts, hK, hlk, hrt, hok, hR⟩ := C
  intro H locs ls L st μ r h hL hst hW hS
  unfold zi_iload at h
  split at h
  · rename_i x hx1
    exact lv_iload_n hx hb hd hi (hL.at hx1) (hk H locs ls L (.inl x :: st) μ r h hL (zk_wcons (hL.2.1 i _ hx1) hst) hW hS)
  · cases h
theorem zs_iload {X : ZX} {E : ZE} {own : String} {cc : ByteArray} {nL : Nat} {ret : Option FieldType} {rm : Room} {ρ : Type} {q : ρ → ZR} {pc : Nat} {κ : ZK ρ} {i : Nat} (C : zk_X X E own cc nL ret rm) (hd : decode cc pc = .ok (.iload i, 2)) (hk : zk_S X E nL q (pc + 2) κ) : zk_S X E nL q (pc) (zi_iload i κ) := by
  obtain ⟨p, l, e, R, s, m, args, below, meth, c⟩ := X
  obtain ⟨hx, hb, hml, hown, hts, hK, hlk, hrt, hok, hR⟩ := C
  intro H locs ls L st μ r h hL hst hW hS
  unfold zi_iload at h
  split at h
  · rename_i x hx1
    exact lv_iload hx hb hd (hL.at hx1) (hk H locs ls L (.inl x :: st) μ r h hL (zk_wcons (hL.2.1 i _ hx1) hst) hW hS)
  · cases h
def zi_lload {ρ : Type} (i : Nat) (κ : ZK ρ) : ZK ρ := fun L st μ => match zk_nth L i with
  | some (.inr (.inl x)) => κ L (.inr (.inl x) :: st) μ
  | _ => none
theorem zs_lload_n {X : ZX} {E : ZE} {own : String} {cc : ByteArray} {nL : Nat} {ret : Option FieldType} {rm : Room} {ρ : Type} {q : ρ → ZR} {pc : Nat} {κ : ZK ρ} {k : Fin 4} {i : Nat} (C : zk_X X E own cc nL ret rm) (hd : decode cc pc = .ok (.lload_n k, 1)) (hi : (k : Nat) = i) (hk : zk_S X E nL q (pc + 1) κ) : zk_S X E nL q (pc) (zi_lload i κ) := by
  obtain ⟨p, l, e, R, s, m, args, below, meth, c⟩ := X
  obtain ⟨hx, hb, hml, hown, hts, hK, hlk, hrt, hok, hR⟩ := C
  intro H locs ls L st μ r h hL hst hW hS
  unfold zi_lload at h
  split at h
  · rename_i x hx1
    exact lv_lload_n hx hb hd hi (hL.at hx1) (hk H locs ls L (.inr (.inl x) :: st) μ r h hL (zk_wcons (hL.2.1 i _ hx1) hst) hW hS)
  · cases h
theorem zs_lload {X : ZX} {E : ZE} {own : String} {cc : ByteArray} {nL : Nat} {ret : Option FieldType} {rm : Room} {ρ : Type} {q : ρ → ZR} {pc : Nat} {κ : ZK ρ} {i : Nat} (C : zk_X X E own cc nL ret rm) (hd : decode cc pc = .ok (.lload i, 2)) (hk : zk_S X E nL q (pc + 2) κ) : zk_S X E nL q (pc) (zi_lload i κ) := by
  obtain ⟨p, l, e, R, s, m, args, below, meth, c⟩ := X
  obtain ⟨hx, hb, hml, hown, hts, hK, hlk, hrt, hok, hR⟩ := C
  intro H locs ls L st μ r h hL hst hW hS
  unfold zi_lload at h
  split at h
  · rename_i x hx1
    exact lv_lload hx hb hd (hL.at hx1) (hk H locs ls L (.inr (.inl x) :: st) μ r h hL (zk_wcons (hL.2.1 i _ hx1) hst) hW hS)
  · cases h
def zi_aload {ρ : Type} (i : Nat) (κ : ZK ρ) : ZK ρ := fun L st μ => match zk_nth L i with
  | some (.inr (.inr x)) => κ L (.inr (.inr x) :: st) μ
  | _ => none
theorem zs_aload_n {X : ZX} {E : ZE} {own : String} {cc : ByteArray} {nL : Nat} {ret : Option FieldType} {rm : Room} {ρ : Type} {q : ρ → ZR} {pc : Nat} {κ : ZK ρ} {k : Fin 4} {i : Nat} (C : zk_X X E own cc nL ret rm) (hd : decode cc pc = .ok (.aload_n k, 1)) (hi : (k : Nat) = i) (hk : zk_S X E nL q (pc + 1) κ) : zk_S X E nL q (pc) (zi_aload i κ) := by
  obtain ⟨p, l, e, R, s, m, args, below, meth, c⟩ := X
  obtain ⟨hx, hb, hml, hown, hts, hK, hlk, hrt, hok, hR⟩ := C
  intro H locs ls L st μ r h hL hst hW hS
  unfold zi_aload at h
  split at h
  · rename_i x hx1
    exact lv_aload_n hx hb hd hi (hL.at hx1) (hk H locs ls L (.inr (.inr x) :: st) μ r h hL (zk_wcons (hL.2.1 i _ hx1) hst) hW hS)
  · cases h
theorem zs_aload {X : ZX} {E : ZE} {own : String} {cc : ByteArray} {nL : Nat} {ret : Option FieldType} {rm : Room} {ρ : Type} {q : ρ → ZR} {pc : Nat} {κ : ZK ρ} {i : Nat} (C : zk_X X E own cc nL ret rm) (hd : decode cc pc = .ok (.aload i, 2)) (hk : zk_S X E nL q (pc + 2) κ) : zk_S X E nL q (pc) (zi_aload i κ) := by
  obtain ⟨p, l, e, R, s, m, args, below, meth, c⟩ := X
  obtain ⟨hx, hb, hml, hown, hts, hK, hlk, hrt, hok, hR⟩ := C
  intro H locs ls L st μ r h hL hst hW hS
  unfold zi_aload at h
  split at h
  · rename_i x hx1
    exact lv_aload hx hb hd (hL.at hx1) (hk H locs ls L (.inr (.inr x) :: st) μ r h hL (zk_wcons (hL.2.1 i _ hx1) hst) hW hS)
  · cases h
def zi_istore {ρ : Type} (i : Nat) (κ : ZK ρ) : ZK ρ := fun L st μ => match st with
  | .inl x :: st => if (zk_ok1 L i && decide (i < L.length)) = true then κ (zk_put L i (.inl x)) st μ else none
  | _ => none
theorem zs_istore_n {X : ZX} {E : ZE} {own : String} {cc : ByteArray} {nL : Nat} {ret : Option FieldType} {rm : Room} {ρ : Type} {q : ρ → ZR} {pc : Nat} {κ : ZK ρ} {k : Fin 4} {i : Nat} (C : zk_X X E own cc nL ret rm) (hd : decode cc pc = .ok (.istore_n k, 1)) (hi : (k : Nat) = i) (hk : zk_S X E nL q (pc + 1) κ) : zk_S X E nL q (pc) (zi_istore i κ) := by
  obtain ⟨p, l, e, R, s, m, args, below, meth, c⟩ := X
  obtain ⟨hx, hb, hml, hown, hts, hK, hlk, hrt, hok, hR⟩ := C
  intro H locs ls L st μ r h hL hst hW hS
  unfold zi_istore at h
  split at h
  · rename_i x st
    by_cases ho : (zk_ok1 L i && decide (i < L.length)) = true
    · rw [if_pos ho] at h
      simp only [Bool.and_eq_true, decide_eq_true_eq] at ho
      exact lv_istore_n hx hb hd hi hL.2.2 (by rw [← hL.1]; exact ho.2) rfl (fun ls' hl' => hk H locs ls' _ st μ r h (zk_L.store hL.1 hL.2.1 (by rw [← hL.1]; exact ho.2) (zk_whd hst) ho.1 hl') (zk_wtl hst) hW hS)
    · rw [if_neg ho] at h; cases h
  · cases h
theorem zs_istore {X : ZX} {E : ZE} {own : String} {cc : ByteArray} {nL : Nat} {ret : Option FieldType} {rm : Room} {ρ : Type} {q : ρ → ZR} {pc : Nat} {κ : ZK ρ} {i : Nat} (C : zk_X X E own cc nL ret rm) (hd : decode cc pc = .ok (.istore i, 2)) (hk : zk_S X E nL q (pc + 2) κ) : zk_S X E nL q (pc) (zi_istore i κ) := by
  obtain ⟨p, l, e, R, s, m, args, below, meth, c⟩ := X
  obtain ⟨hx, hb, hml, hown, hts, hK, hlk, hrt, hok, hR⟩ := C
  intro H locs ls L st μ r h hL hst hW hS
  unfold zi_istore at h
  split at h
  · rename_i x st
    by_cases ho : (zk_ok1 L i && decide (i < L.length)) = true
    · rw [if_pos ho] at h
      simp only [Bool.and_eq_true, decide_eq_true_eq] at ho
      exact lv_istore hx hb hd hL.2.2 (by rw [← hL.1]; exact ho.2) rfl (fun ls' hl' => hk H locs ls' _ st μ r h (zk_L.store hL.1 hL.2.1 (by rw [← hL.1]; exact ho.2) (zk_whd hst) ho.1 hl') (zk_wtl hst) hW hS)
    · rw [if_neg ho] at h; cases h
  · cases h
def zi_astore {ρ : Type} (i : Nat) (κ : ZK ρ) : ZK ρ := fun L st μ => match st with
  | .inr (.inr x) :: st => if (zk_ok1 L i && decide (i < L.length)) = true then κ (zk_put L i (.inr (.inr x))) st μ else none
  | _ => none
theorem zs_astore_n {X : ZX} {E : ZE} {own : String} {cc : ByteArray} {nL : Nat} {ret : Option FieldType} {rm : Room} {ρ : Type} {q : ρ → ZR} {pc : Nat} {κ : ZK ρ} {k : Fin 4} {i : Nat} (C : zk_X X E own cc nL ret rm) (hd : decode cc pc = .ok (.astore_n k, 1)) (hi : (k : Nat) = i) (hk : zk_S X E nL q (pc + 1) κ) : zk_S X E nL q (pc) (zi_astore i κ) := by
  obtain ⟨p, l, e, R, s, m, args, below, meth, c⟩ := X
  obtain ⟨hx, hb, hml, hown, hts, hK, hlk, hrt, hok, hR⟩ := C
  intro H locs ls L st μ r h hL hst hW hS
  unfold zi_astore at h
  split at h
  · rename_i x st
    by_cases ho : (zk_ok1 L i && decide (i < L.length)) = true
    · rw [if_pos ho] at h
      simp only [Bool.and_eq_true, decide_eq_true_eq] at ho
      exact lv_astore_n hx hb hd hi hL.2.2 (by rw [← hL.1]; exact ho.2) rfl (fun ls' hl' => hk H locs ls' _ st μ r h (zk_L.store hL.1 hL.2.1 (by rw [← hL.1]; exact ho.2) (zk_whd hst) ho.1 hl') (zk_wtl hst) hW hS)
    · rw [if_neg ho] at h; cases h
  · cases h
theorem zs_astore {X : ZX} {E : ZE} {own : String} {cc : ByteArray} {nL : Nat} {ret : Option FieldType} {rm : Room} {ρ : Type} {q : ρ → ZR} {pc : Nat} {κ : ZK ρ} {i : Nat} (C : zk_X X E own cc nL ret rm) (hd : decode cc pc = .ok (.astore i, 2)) (hk : zk_S X E nL q (pc + 2) κ) : zk_S X E nL q (pc) (zi_astore i κ) := by
  obtain ⟨p, l, e, R, s, m, args, below, meth, c⟩ := X
  obtain ⟨hx, hb, hml, hown, hts, hK, hlk, hrt, hok, hR⟩ := C
  intro H locs ls L st μ r h hL hst hW hS
  unfold zi_astore at h
  split at h
  · rename_i x st
    by_cases ho : (zk_ok1 L i && decide (i < L.length)) = true
    · rw [if_pos ho] at h
      simp only [Bool.and_eq_true, decide_eq_true_eq] at ho
      exact lv_astore hx hb hd hL.2.2 (by rw [← hL.1]; exact ho.2) rfl (fun ls' hl' => hk H locs ls' _ st μ r h (zk_L.store hL.1 hL.2.1 (by rw [← hL.1]; exact ho.2) (zk_whd hst) ho.1 hl') (zk_wtl hst) hW hS)
    · rw [if_neg ho] at h; cases h
  · cases h
def zi_iinc {ρ : Type} (i : Nat) (n : Int32) (κ : ZK ρ) : ZK ρ := fun L st μ => match zk_nth L i with
  | some (.inl x) => if (zk_ok1 L i && decide (i < L.length)) = true then κ (zk_put L i (.inl (x + n))) st μ else none
  | _ => none
theorem zs_iinc {X : ZX} {E : ZE} {own : String} {cc : ByteArray} {nL : Nat} {ret : Option FieldType} {rm : Room} {ρ : Type} {q : ρ → ZR} {pc : Nat} {κ : ZK ρ} {i : Nat} {n0 : Int} {n : Int32} (C : zk_X X E own cc nL ret rm) (hd : decode cc pc = .ok (.iinc i n0, 3)) (hn : Int32.ofInt n0 = n) (hk : zk_S X E nL q (pc + 3) κ) : zk_S X E nL q (pc) (zi_iinc i n κ) := by
  obtain ⟨p, l, e, R, s, m, args, below, meth, c⟩ := X
  obtain ⟨hx, hb, hml, hown, hts, hK, hlk, hrt, hok, hR⟩ := C
  intro H locs ls L st μ r h hL hst hW hS
  unfold zi_iinc at h
  split at h
  · rename_i x hx1
    by_cases ho : (zk_ok1 L i && decide (i < L.length)) = true
    · rw [if_pos ho] at h
      simp only [Bool.and_eq_true, decide_eq_true_eq] at ho
      obtain ⟨k, hkk⟩ := List.getElem?_of_mem ((zk_lv_mem E.1 L 0 (i, .int x)).mpr ⟨i, .inl x, hx1, by simp [zk_c]⟩)
      exact lv_iinc hx hb hd hL.2.2 hkk (by rw [hn]) (by rw [← hL.1]; exact ho.2) rfl (fun ls' hl' => hk H locs ls' _ st μ r h (zk_L.store (v := .inl (x + n)) hL.1 hL.2.1 (by rw [← hL.1]; exact ho.2) trivial ho.1 hl') hst hW hS)
    · rw [if_neg ho] at h; cases h
  · cases h
def zi_b {ρ : Type} (f : Int32 → Int32 → Int32) (κ : ZK ρ) : ZK ρ := fun L st μ => match st with
  | .inl y :: .inl x :: st => κ L (.inl (f x y) :: st) μ
  | _ => none
def zi_bz {ρ : Type} (f : Int32 → Int32 → Int32) (κ : ZK ρ) : ZK ρ := fun L st μ => match st with
  | .inl y :: .inl x :: st => if y = 0 then none else κ L (.inl (f x y) :: st) μ
  | _ => none
theorem zs_iadd {X : ZX} {E : ZE} {own : String} {cc : ByteArray} {nL : Nat} {ret : Option FieldType} {rm : Room} {ρ : Type} {q : ρ → ZR} {pc : Nat} {κ : ZK ρ} (C : zk_X X E own cc nL ret rm) (hd : decode cc pc = .ok (.iadd, 1)) (hk : zk_S X E nL q (pc + 1) κ) : zk_S X E nL q (pc) (zi_b (fun x y => x + y) κ) := by
  obtain ⟨p, l, e, R, s, m, args, below, meth, c⟩ := X
  obtain ⟨hx, hb, hml, hown, hts, hK, hlk, hrt, hok, hR⟩ := C
  intro H locs ls L st μ r h hL hst hW hS
  unfold zi_b at h
  split at h
  · rename_i y x st
    exact lv_iadd hx hb hd (hk H locs ls L (.inl (x + y) :: st) μ r h hL (zk_wcons trivial (zk_wtl (zk_wtl hst))) hW hS)
  · cases h
theorem zs_isub {X : ZX} {E : ZE} {own : String} {cc : ByteArray} {nL : Nat} {ret : Option FieldType} {rm : Room} {ρ : Type} {q : ρ → ZR} {pc : Nat} {κ : ZK ρ} (C : zk_X X E own cc nL ret rm) (hd : decode cc pc = .ok (.isub, 1)) (hk : zk_S X E nL q (pc + 1) κ) : zk_S X E nL q (pc) (zi_b (fun x y => x - y) κ) := by
  obtain ⟨p, l, e, R, s, m, args, below, meth, c⟩ := X
  obtain ⟨hx, hb, hml, hown, hts, hK, hlk, hrt, hok, hR⟩ := C
  intro H locs ls L st μ r h hL hst hW hS
  unfold zi_b at h
  split at h
  · rename_i y x st
    exact lv_isub hx hb hd (hk H locs ls L (.inl (x - y) :: st) μ r h hL (zk_wcons trivial (zk_wtl (zk_wtl hst))) hW hS)
  · cases h
theorem zs_imul {X : ZX} {E : ZE} {own : String} {cc : ByteArray} {nL : Nat} {ret : Option FieldType} {rm : Room} {ρ : Type} {q : ρ → ZR} {pc : Nat} {κ : ZK ρ} (C : zk_X X E own cc nL ret rm) (hd : decode cc pc = .ok (.imul, 1)) (hk : zk_S X E nL q (pc + 1) κ) : zk_S X E nL q (pc) (zi_b (fun x y => x * y) κ) := by
  obtain ⟨p, l, e, R, s, m, args, below, meth, c⟩ := X
  obtain ⟨hx, hb, hml, hown, hts, hK, hlk, hrt, hok, hR⟩ := C
  intro H locs ls L st μ r h hL hst hW hS
  unfold zi_b at h
  split at h
  · rename_i y x st
    exact lv_imul hx hb hd (hk H locs ls L (.inl (x * y) :: st) μ r h hL (zk_wcons trivial (zk_wtl (zk_wtl hst))) hW hS)
  · cases h
theorem zs_iand {X : ZX} {E : ZE} {own : String} {cc : ByteArray} {nL : Nat} {ret : Option FieldType} {rm : Room} {ρ : Type} {q : ρ → ZR} {pc : Nat} {κ : ZK ρ} (C : zk_X X E own cc nL ret rm) (hd : decode cc pc = .ok (.iand, 1)) (hk : zk_S X E nL q (pc + 1) κ) : zk_S X E nL q (pc) (zi_b (fun x y => x &&& y) κ) := by
  obtain ⟨p, l, e, R, s, m, args, below, meth, c⟩ := X
  obtain ⟨hx, hb, hml, hown, hts, hK, hlk, hrt, hok, hR⟩ := C
  intro H locs ls L st μ r h hL hst hW hS
  unfold zi_b at h
  split at h
  · rename_i y x st
    exact lv_iand hx hb hd (hk H locs ls L (.inl (x &&& y) :: st) μ r h hL (zk_wcons trivial (zk_wtl (zk_wtl hst))) hW hS)
  · cases h
theorem zs_ior {X : ZX} {E : ZE} {own : String} {cc : ByteArray} {nL : Nat} {ret : Option FieldType} {rm : Room} {ρ : Type} {q : ρ → ZR} {pc : Nat} {κ : ZK ρ} (C : zk_X X E own cc nL ret rm) (hd : decode cc pc = .ok (.ior, 1)) (hk : zk_S X E nL q (pc + 1) κ) : zk_S X E nL q (pc) (zi_b (fun x y => x ||| y) κ) := by
  obtain ⟨p, l, e, R, s, m, args, below, meth, c⟩ := X
  obtain ⟨hx, hb, hml, hown, hts, hK, hlk, hrt, hok, hR⟩ := C
  intro H locs ls L st μ r h hL hst hW hS
  unfold zi_b at h
  split at h
  · rename_i y x st
    exact lv_ior hx hb hd (hk H locs ls L (.inl (x ||| y) :: st) μ r h hL (zk_wcons trivial (zk_wtl (zk_wtl hst))) hW hS)
  · cases h
theorem zs_ixor {X : ZX} {E : ZE} {own : String} {cc : ByteArray} {nL : Nat} {ret : Option FieldType} {rm : Room} {ρ : Type} {q : ρ → ZR} {pc : Nat} {κ : ZK ρ} (C : zk_X X E own cc nL ret rm) (hd : decode cc pc = .ok (.ixor, 1)) (hk : zk_S X E nL q (pc + 1) κ) : zk_S X E nL q (pc) (zi_b (fun x y => x ^^^ y) κ) := by
  obtain ⟨p, l, e, R, s, m, args, below, meth, c⟩ := X
  obtain ⟨hx, hb, hml, hown, hts, hK, hlk, hrt, hok, hR⟩ := C
  intro H locs ls L st μ r h hL hst hW hS
  unfold zi_b at h
  split at h
  · rename_i y x st
    exact lv_ixor hx hb hd (hk H locs ls L (.inl (x ^^^ y) :: st) μ r h hL (zk_wcons trivial (zk_wtl (zk_wtl hst))) hW hS)
  · cases h
theorem zs_ishl {X : ZX} {E : ZE} {own : String} {cc : ByteArray} {nL : Nat} {ret : Option FieldType} {rm : Room} {ρ : Type} {q : ρ → ZR} {pc : Nat} {κ : ZK ρ} (C : zk_X X E own cc nL ret rm) (hd : decode cc pc = .ok (.ishl, 1)) (hk : zk_S X E nL q (pc + 1) κ) : zk_S X E nL q (pc) (zi_b (fun x y => x <<< (y &&& 31)) κ) := by
  obtain ⟨p, l, e, R, s, m, args, below, meth, c⟩ := X
  obtain ⟨hx, hb, hml, hown, hts, hK, hlk, hrt, hok, hR⟩ := C
  intro H locs ls L st μ r h hL hst hW hS
  unfold zi_b at h
  split at h
  · rename_i y x st
    exact lv_ishl hx hb hd (hk H locs ls L (.inl (x <<< (y &&& 31)) :: st) μ r h hL (zk_wcons trivial (zk_wtl (zk_wtl hst))) hW hS)
  · cases h
theorem zs_ishr {X : ZX} {E : ZE} {own : String} {cc : ByteArray} {nL : Nat} {ret : Option FieldType} {rm : Room} {ρ : Type} {q : ρ → ZR} {pc : Nat} {κ : ZK ρ} (C : zk_X X E own cc nL ret rm) (hd : decode cc pc = .ok (.ishr, 1)) (hk : zk_S X E nL q (pc + 1) κ) : zk_S X E nL q (pc) (zi_b (fun x y => x >>> (y &&& 31)) κ) := by
  obtain ⟨p, l, e, R, s, m, args, below, meth, c⟩ := X
  obtain ⟨hx, hb, hml, hown, hts, hK, hlk, hrt, hok, hR⟩ := C
  intro H locs ls L st μ r h hL hst hW hS
  unfold zi_b at h
  split at h
  · rename_i y x st
    exact lv_ishr hx hb hd (hk H locs ls L (.inl (x >>> (y &&& 31)) :: st) μ r h hL (zk_wcons trivial (zk_wtl (zk_wtl hst))) hW hS)
  · cases h
theorem zs_iushr {X : ZX} {E : ZE} {own : String} {cc : ByteArray} {nL : Nat} {ret : Option FieldType} {rm : Room} {ρ : Type} {q : ρ → ZR} {pc : Nat} {κ : ZK ρ} (C : zk_X X E own cc nL ret rm) (hd : decode cc pc = .ok (.iushr, 1)) (hk : zk_S X E nL q (pc + 1) κ) : zk_S X E nL q (pc) (zi_b (fun x y => (x.toUInt32 >>> (y.toUInt32 &&& Int32.toUInt32 31)).toInt32) κ) := by
  obtain ⟨p, l, e, R, s, m, args, below, meth, c⟩ := X
  obtain ⟨hx, hb, hml, hown, hts, hK, hlk, hrt, hok, hR⟩ := C
  intro H locs ls L st μ r h hL hst hW hS
  unfold zi_b at h
  split at h
  · rename_i y x st
    exact lv_iushr hx hb hd rfl (hk H locs ls L (.inl ((x.toUInt32 >>> (y.toUInt32 &&& Int32.toUInt32 31)).toInt32) :: st) μ r h hL (zk_wcons trivial (zk_wtl (zk_wtl hst))) hW hS)
  · cases h
theorem zs_idiv {X : ZX} {E : ZE} {own : String} {cc : ByteArray} {nL : Nat} {ret : Option FieldType} {rm : Room} {ρ : Type} {q : ρ → ZR} {pc : Nat} {κ : ZK ρ} (C : zk_X X E own cc nL ret rm) (hd : decode cc pc = .ok (.idiv, 1)) (hk : zk_S X E nL q (pc + 1) κ) : zk_S X E nL q (pc) (zi_bz (fun x y => x / y) κ) := by
  obtain ⟨p, l, e, R, s, m, args, below, meth, c⟩ := X
  obtain ⟨hx, hb, hml, hown, hts, hK, hlk, hrt, hok, hR⟩ := C
  intro H locs ls L st μ r h hL hst hW hS
  unfold zi_bz at h
  split at h
  · rename_i y x st
    by_cases hy : y = 0
    · rw [if_pos hy] at h; cases h
    · rw [if_neg hy] at h
      exact lv_idiv hx hb hd hy (hk H locs ls L (.inl (x / y) :: st) μ r h hL (zk_wcons trivial (zk_wtl (zk_wtl hst))) hW hS)
  · cases h
theorem zs_irem {X : ZX} {E : ZE} {own : String} {cc : ByteArray} {nL : Nat} {ret : Option FieldType} {rm : Room} {ρ : Type} {q : ρ → ZR} {pc : Nat} {κ : ZK ρ} (C : zk_X X E own cc nL ret rm) (hd : decode cc pc = .ok (.irem, 1)) (hk : zk_S X E nL q (pc + 1) κ) : zk_S X E nL q (pc) (zi_bz (fun x y => x - x / y * y) κ) := by
  obtain ⟨p, l, e, R, s, m, args, below, meth, c⟩ := X
  obtain ⟨hx, hb, hml, hown, hts, hK, hlk, hrt, hok, hR⟩ := C
  intro H locs ls L st μ r h hL hst hW hS
  unfold zi_bz at h
  split at h
  · rename_i y x st
    by_cases hy : y = 0
    · rw [if_pos hy] at h; cases h
    · rw [if_neg hy] at h
      exact lv_irem hx hb hd hy (hk H locs ls L (.inl (x - x / y * y) :: st) μ r h hL (zk_wcons trivial (zk_wtl (zk_wtl hst))) hW hS)
  · cases h
def zi_lb {ρ : Type} (f : Int64 → Int64 → Int64) (κ : ZK ρ) : ZK ρ := fun L st μ => match st with
  | .inr (.inl y) :: .inr (.inl x) :: st => κ L (.inr (.inl (f x y)) :: st) μ
  | _ => none
def zi_lbz {ρ : Type} (f : Int64 → Int64 → Int64) (κ : ZK ρ) : ZK ρ := fun L st μ => match st with
  | .inr (.inl y) :: .inr (.inl x) :: st => if y = 0 then none else κ L (.inr (.inl (f x y)) :: st) μ
  | _ => none
theorem zs_ladd {X : ZX} {E : ZE} {own : String} {cc : ByteArray} {nL : Nat} {ret : Option FieldType} {rm : Room} {ρ : Type} {q : ρ → ZR} {pc : Nat} {κ : ZK ρ} (C : zk_X X E own cc nL ret rm) (hd : decode cc pc = .ok (.ladd, 1)) (hk : zk_S X E nL q (pc + 1) κ) : zk_S X E nL q (pc) (zi_lb (fun x y => x + y) κ) := by
  obtain ⟨p, l, e, R, s, m, args, below, meth, c⟩ := X
  obtain ⟨hx, hb, hml, hown, hts, hK, hlk, hrt, hok, hR⟩ := C
  intro H locs ls L st μ r h hL hst hW hS
  unfold zi_lb at h
  split at h
  · rename_i y x st
    exact lv_ladd hx hb hd (hk H locs ls L (.inr (.inl (x + y)) :: st) μ r h hL (zk_wcons trivial (zk_wtl (zk_wtl hst))) hW hS)
  · cases h
theorem zs_lmul {X : ZX} {E : ZE} {own : String} {cc : ByteArray} {nL : Nat} {ret : Option FieldType} {rm : Room} {ρ : Type} {q : ρ → ZR} {pc : Nat} {κ : ZK ρ} (C : zk_X X E own cc nL ret rm) (hd : decode cc pc = .ok (.lmul, 1)) (hk : zk_S X E nL q (pc + 1) κ) : zk_S X E nL q (pc) (zi_lb (fun x y => x * y) κ) := by
  obtain ⟨p, l, e, R, s, m, args, below, meth, c⟩ := X
  obtain ⟨hx, hb, hml, hown, hts, hK, hlk, hrt, hok, hR⟩ := C
  intro H locs ls L st μ r h hL hst hW hS
  unfold zi_lb at h
  split at h
  · rename_i y x st
    exact lv_lmul hx hb hd (hk H locs ls L (.inr (.inl (x * y)) :: st) μ r h hL (zk_wcons trivial (zk_wtl (zk_wtl hst))) hW hS)
  · cases h
theorem zs_land {X : ZX} {E : ZE} {own : String} {cc : ByteArray} {nL : Nat} {ret : Option FieldType} {rm : Room} {ρ : Type} {q : ρ → ZR} {pc : Nat} {κ : ZK ρ} (C : zk_X X E own cc nL ret rm) (hd : decode cc pc = .ok (.land, 1)) (hk : zk_S X E nL q (pc + 1) κ) : zk_S X E nL q (pc) (zi_lb (fun x y => x &&& y) κ) := by
  obtain ⟨p, l, e, R, s, m, args, below, meth, c⟩ := X
  obtain ⟨hx, hb, hml, hown, hts, hK, hlk, hrt, hok, hR⟩ := C
  intro H locs ls L st μ r h hL hst hW hS
  unfold zi_lb at h
  split at h
  · rename_i y x st
    exact lv_land hx hb hd (hk H locs ls L (.inr (.inl (x &&& y)) :: st) μ r h hL (zk_wcons trivial (zk_wtl (zk_wtl hst))) hW hS)
  · cases h
theorem zs_lor {X : ZX} {E : ZE} {own : String} {cc : ByteArray} {nL : Nat} {ret : Option FieldType} {rm : Room} {ρ : Type} {q : ρ → ZR} {pc : Nat} {κ : ZK ρ} (C : zk_X X E own cc nL ret rm) (hd : decode cc pc = .ok (.lor, 1)) (hk : zk_S X E nL q (pc + 1) κ) : zk_S X E nL q (pc) (zi_lb (fun x y => x ||| y) κ) := by
  obtain ⟨p, l, e, R, s, m, args, below, meth, c⟩ := X
  obtain ⟨hx, hb, hml, hown, hts, hK, hlk, hrt, hok, hR⟩ := C
  intro H locs ls L st μ r h hL hst hW hS
  unfold zi_lb at h
  split at h
  · rename_i y x st
    exact lv_lor hx hb hd (hk H locs ls L (.inr (.inl (x ||| y)) :: st) μ r h hL (zk_wcons trivial (zk_wtl (zk_wtl hst))) hW hS)
  · cases h
theorem zs_lrem {X : ZX} {E : ZE} {own : String} {cc : ByteArray} {nL : Nat} {ret : Option FieldType} {rm : Room} {ρ : Type} {q : ρ → ZR} {pc : Nat} {κ : ZK ρ} (C : zk_X X E own cc nL ret rm) (hd : decode cc pc = .ok (.lrem, 1)) (hk : zk_S X E nL q (pc + 1) κ) : zk_S X E nL q (pc) (zi_lbz (fun x y => x - x / y * y) κ) := by
  obtain ⟨p, l, e, R, s, m, args, below, meth, c⟩ := X
  obtain ⟨hx, hb, hml, hown, hts, hK, hlk, hrt, hok, hR⟩ := C
  intro H locs ls L st μ r h hL hst hW hS
  unfold zi_lbz at h
  split at h
  · rename_i y x st
    by_cases hy : y = 0
    · rw [if_pos hy] at h; cases h
    · rw [if_neg hy] at h
      exact lv_lrem hx hb hd hy (hk H locs ls L (.inr (.inl (x - x / y * y)) :: st) μ r h hL (zk_wcons trivial (zk_wtl (zk_wtl hst))) hW hS)
  · cases h
def zi_lcmp {ρ : Type} (κ : ZK ρ) : ZK ρ := fun L st μ => match st with
  | .inr (.inl y) :: .inr (.inl x) :: st => κ L (.inl (lg_cmp x y) :: st) μ
  | _ => none
theorem zs_lcmp {X : ZX} {E : ZE} {own : String} {cc : ByteArray} {nL : Nat} {ret : Option FieldType} {rm : Room} {ρ : Type} {q : ρ → ZR} {pc : Nat} {κ : ZK ρ} (C : zk_X X E own cc nL ret rm) (hd : decode cc pc = .ok (.lcmp, 1)) (hk : zk_S X E nL q (pc + 1) κ) : zk_S X E nL q (pc) (zi_lcmp κ) := by
  obtain ⟨p, l, e, R, s, m, args, below, meth, c⟩ := X
  obtain ⟨hx, hb, hml, hown, hts, hK, hlk, hrt, hok, hR⟩ := C
  intro H locs ls L st μ r h hL hst hW hS
  unfold zi_lcmp at h
  split at h
  · rename_i y x st
    exact W.lcmp hx hb hd (hk H locs ls L (.inl (lg_cmp x y) :: st) μ r h hL (zk_wcons trivial (zk_wtl (zk_wtl hst))) hW hS)
  · cases h
def zi_u {ρ : Type} (f : Int32 → ZV) (κ : ZK ρ) : ZK ρ := fun L st μ => match st with
  | .inl x :: st => κ L (f x :: st) μ
  | _ => none
def zi_lu {ρ : Type} (f : Int64 → ZV) (κ : ZK ρ) : ZK ρ := fun L st μ => match st with
  | .inr (.inl x) :: st => κ L (f x :: st) μ
  | _ => none
theorem zs_i2l {X : ZX} {E : ZE} {own : String} {cc : ByteArray} {nL : Nat} {ret : Option FieldType} {rm : Room} {ρ : Type} {q : ρ → ZR} {pc : Nat} {κ : ZK ρ} (C : zk_X X E own cc nL ret rm) (hd : decode cc pc = .ok (.i2l, 1)) (hk : zk_S X E nL q (pc + 1) κ) : zk_S X E nL q (pc) (zi_u (fun x => .inr (.inl x.toInt64)) κ) := by
  obtain ⟨p, l, e, R, s, m, args, below, meth, c⟩ := X
  obtain ⟨hx, hb, hml, hown, hts, hK, hlk, hrt, hok, hR⟩ := C
  intro H locs ls L st μ r h hL hst hW hS
  unfold zi_u at h
  split at h
  · rename_i x st
    exact lv_i2l hx hb hd rfl (hk H locs ls L (.inr (.inl x.toInt64) :: st) μ r h hL (zk_wcons trivial (zk_wtl hst)) hW hS)
  · cases h
theorem zs_i2b {X : ZX} {E : ZE} {own : String} {cc : ByteArray} {nL : Nat} {ret : Option FieldType} {rm : Room} {ρ : Type} {q : ρ → ZR} {pc : Nat} {κ : ZK ρ} (C : zk_X X E own cc nL ret rm) (hd : decode cc pc = .ok (.i2b, 1)) (hk : zk_S X E nL q (pc + 1) κ) : zk_S X E nL q (pc) (zi_u (fun x => .inl x.toInt8.toInt32) κ) := by
  obtain ⟨p, l, e, R, s, m, args, below, meth, c⟩ := X
  obtain ⟨hx, hb, hml, hown, hts, hK, hlk, hrt, hok, hR⟩ := C
  intro H locs ls L st μ r h hL hst hW hS
  unfold zi_u at h
  split at h
  · rename_i x st
    exact lv_i2b hx hb hd rfl (hk H locs ls L (.inl x.toInt8.toInt32 :: st) μ r h hL (zk_wcons trivial (zk_wtl hst)) hW hS)
  · cases h
theorem zs_i2s {X : ZX} {E : ZE} {own : String} {cc : ByteArray} {nL : Nat} {ret : Option FieldType} {rm : Room} {ρ : Type} {q : ρ → ZR} {pc : Nat} {κ : ZK ρ} (C : zk_X X E own cc nL ret rm) (hd : decode cc pc = .ok (.i2s, 1)) (hk : zk_S X E nL q (pc + 1) κ) : zk_S X E nL q (pc) (zi_u (fun x => .inl x.toInt16.toInt32) κ) := by
  obtain ⟨p, l, e, R, s, m, args, below, meth, c⟩ := X
  obtain ⟨hx, hb, hml, hown, hts, hK, hlk, hrt, hok, hR⟩ := C
  intro H locs ls L st μ r h hL hst hW hS
  unfold zi_u at h
  split at h
  · rename_i x st
    exact lv_i2s hx hb hd rfl (hk H locs ls L (.inl x.toInt16.toInt32 :: st) μ r h hL (zk_wcons trivial (zk_wtl hst)) hW hS)
  · cases h
theorem zs_l2i {X : ZX} {E : ZE} {own : String} {cc : ByteArray} {nL : Nat} {ret : Option FieldType} {rm : Room} {ρ : Type} {q : ρ → ZR} {pc : Nat} {κ : ZK ρ} (C : zk_X X E own cc nL ret rm) (hd : decode cc pc = .ok (.l2i, 1)) (hk : zk_S X E nL q (pc + 1) κ) : zk_S X E nL q (pc) (zi_lu (fun x => .inl x.toInt32) κ) := by
  obtain ⟨p, l, e, R, s, m, args, below, meth, c⟩ := X
  obtain ⟨hx, hb, hml, hown, hts, hK, hlk, hrt, hok, hR⟩ := C
  intro H locs ls L st μ r h hL hst hW hS
  unfold zi_lu at h
  split at h
  · rename_i x st
    exact lv_l2i hx hb hd rfl (hk H locs ls L (.inl x.toInt32 :: st) μ r h hL (zk_wcons trivial (zk_wtl hst)) hW hS)
  · cases h
def zk_ct (v : ZV) : Nat := match v with
  | .inr (.inl _) => 2
  | _ => 1
theorem zk_ct_c (ad : Nat → Nat) (v : ZV) : (zk_c ad v).category = zk_ct v := by rcases v with x | y | q <;> rfl
def zi_dup {ρ : Type} (κ : ZK ρ) : ZK ρ := fun L st μ => match st with
  | v :: st => if zk_ct v = 1 then κ L (v :: v :: st) μ else none
  | _ => none
theorem zs_dup {X : ZX} {E : ZE} {own : String} {cc : ByteArray} {nL : Nat} {ret : Option FieldType} {rm : Room} {ρ : Type} {q : ρ → ZR} {pc : Nat} {κ : ZK ρ} (C : zk_X X E own cc nL ret rm) (hd : decode cc pc = .ok (.dup, 1)) (hk : zk_S X E nL q (pc + 1) κ) : zk_S X E nL q (pc) (zi_dup κ) := by
  obtain ⟨p, l, e, R, s, m, args, below, meth, c⟩ := X
  obtain ⟨hx, hb, hml, hown, hts, hK, hlk, hrt, hok, hR⟩ := C
  intro H locs ls L st μ r h hL hst hW hS
  unfold zi_dup at h
  split at h
  · rename_i v st
    by_cases hy : zk_ct v = 1
    · rw [if_pos hy] at h
      exact lv_dup hx hb hd ((zk_ct_c E.1 v).trans hy) (hk H locs ls L (v :: v :: st) μ r h hL (zk_wcons (zk_whd hst) hst) hW hS)
    · rw [if_neg hy] at h; cases h
  · cases h
def zi_pop {ρ : Type} (κ : ZK ρ) : ZK ρ := fun L st μ => match st with
  | v :: st => if zk_ct v = 1 then κ L st μ else none
  | _ => none
theorem zs_pop {X : ZX} {E : ZE} {own : String} {cc : ByteArray} {nL : Nat} {ret : Option FieldType} {rm : Room} {ρ : Type} {q : ρ → ZR} {pc : Nat} {κ : ZK ρ} (C : zk_X X E own cc nL ret rm) (hd : decode cc pc = .ok (.pop, 1)) (hk : zk_S X E nL q (pc + 1) κ) : zk_S X E nL q (pc) (zi_pop κ) := by
  obtain ⟨p, l, e, R, s, m, args, below, meth, c⟩ := X
  obtain ⟨hx, hb, hml, hown, hts, hK, hlk, hrt, hok, hR⟩ := C
  intro H locs ls L st μ r h hL hst hW hS
  unfold zi_pop at h
  split at h
  · rename_i v st
    by_cases hy : zk_ct v = 1
    · rw [if_pos hy] at h
      exact lv_pop hx hb hd ((zk_ct_c E.1 v).trans hy) (hk H locs ls L st μ r h hL (zk_wtl hst) hW hS)
    · rw [if_neg hy] at h; cases h
  · cases h
def zi_dup2 {ρ : Type} (κ : ZK ρ) : ZK ρ := fun L st μ => match st with
  | v :: w :: st => if zk_ct v = 1 ∧ zk_ct w = 1 then κ L (v :: w :: v :: w :: st) μ else none
  | _ => none
theorem zs_dup2 {X : ZX} {E : ZE} {own : String} {cc : ByteArray} {nL : Nat} {ret : Option FieldType} {rm : Room} {ρ : Type} {q : ρ → ZR} {pc : Nat} {κ : ZK ρ} (C : zk_X X E own cc nL ret rm) (hd : decode cc pc = .ok (.dup2, 1)) (hk : zk_S X E nL q (pc + 1) κ) : zk_S X E nL q (pc) (zi_dup2 κ) := by
  obtain ⟨p, l, e, R, s, m, args, below, meth, c⟩ := X
  obtain ⟨hx, hb, hml, hown, hts, hK, hlk, hrt, hok, hR⟩ := C
  intro H locs ls L st μ r h hL hst hW hS
  unfold zi_dup2 at h
  split at h
  · rename_i v w st
    by_cases hy : zk_ct v = 1 ∧ zk_ct w = 1
    · rw [if_pos hy] at h
      exact lv_dup2_11 hx hb hd ((zk_ct_c E.1 v).trans hy.1) ((zk_ct_c E.1 w).trans hy.2) (hk H locs ls L (v :: w :: v :: w :: st) μ r h hL (zk_wcons (zk_whd hst) (zk_wcons (zk_whd (zk_wtl hst)) hst)) hW hS)
    · rw [if_neg hy] at h; cases h
  · cases h
def zi_if {ρ : Type} (P : Int32 → Prop) [DecidablePred P] (κt κf : ZK ρ) : ZK ρ := fun L st μ => match st with
  | .inl x :: st => if P x then κt L st μ else κf L st μ
  | _ => none
def zi_ic {ρ : Type} (P : Int32 → Int32 → Prop) [∀ x y, Decidable (P x y)] (κt κf : ZK ρ) : ZK ρ := fun L st μ => match st with
  | .inl y :: .inl x :: st => if P x y then κt L st μ else κf L st μ
  | _ => none
theorem zs_if_eq {X : ZX} {E : ZE} {own : String} {cc : ByteArray} {nL : Nat} {ret : Option FieldType} {rm : Room} {ρ : Type} {q : ρ → ZR} {pc : Nat} {κt κf : ZK ρ} {off : Int} {tgt : Nat} (C : zk_X X E own cc nL ret rm) (hd : decode cc pc = .ok (.ifCond .eq off, 3)) (ht : (pc : Int) + off = (tgt : Int)) (hk1 : zk_S X E nL q (tgt) κt) (hk2 : zk_S X E nL q (pc + 3) κf) : zk_S X E nL q (pc) (zi_if (fun x => x = 0) κt κf) := by
  obtain ⟨p, l, e, R, s, m, args, below, meth, c⟩ := X
  obtain ⟨hx, hb, hml, hown, hts, hK, hlk, hrt, hok, hR⟩ := C
  intro H locs ls L st μ r h hL hst hW hS
  unfold zi_if at h
  split at h
  · rename_i x st
    exact lv_if_eq hx hb hd ht (fun hc => hk1 H locs ls L st μ r (by rw [if_pos hc] at h; exact h) hL (zk_wtl hst) hW hS) (fun hc => hk2 H locs ls L st μ r (by rw [if_neg (hc)] at h; exact h) hL (zk_wtl hst) hW hS)
  · cases h
theorem zs_if_ne {X : ZX} {E : ZE} {own : String} {cc : ByteArray} {nL : Nat} {ret : Option FieldType} {rm : Room} {ρ : Type} {q : ρ → ZR} {pc : Nat} {κt κf : ZK ρ} {off : Int} {tgt : Nat} (C : zk_X X E own cc nL ret rm) (hd : decode cc pc = .ok (.ifCond .ne off, 3)) (ht : (pc : Int) + off = (tgt : Int)) (hk1 : zk_S X E nL q (tgt) κt) (hk2 : zk_S X E nL q (pc + 3) κf) : zk_S X E nL q (pc) (zi_if (fun x => ¬ x = 0) κt κf) := by
  obtain ⟨p, l, e, R, s, m, args, below, meth, c⟩ := X
  obtain ⟨hx, hb, hml, hown, hts, hK, hlk, hrt, hok, hR⟩ := C
  intro H locs ls L st μ r h hL hst hW hS
  unfold zi_if at h
  split at h
  · rename_i x st
    exact lv_if_ne hx hb hd ht (fun hc => hk1 H locs ls L st μ r (by rw [if_pos hc] at h; exact h) hL (zk_wtl hst) hW hS) (fun hc => hk2 H locs ls L st μ r (by rw [if_neg (fun z => z hc)] at h; exact h) hL (zk_wtl hst) hW hS)
  · cases h
theorem zs_if_lt {X : ZX} {E : ZE} {own : String} {cc : ByteArray} {nL : Nat} {ret : Option FieldType} {rm : Room} {ρ : Type} {q : ρ → ZR} {pc : Nat} {κt κf : ZK ρ} {off : Int} {tgt : Nat} (C : zk_X X E own cc nL ret rm) (hd : decode cc pc = .ok (.ifCond .lt off, 3)) (ht : (pc : Int) + off = (tgt : Int)) (hk1 : zk_S X E nL q (tgt) κt) (hk2 : zk_S X E nL q (pc + 3) κf) : zk_S X E nL q (pc) (zi_if (fun x => x < 0) κt κf) := by
  obtain ⟨p, l, e, R, s, m, args, below, meth, c⟩ := X
  obtain ⟨hx, hb, hml, hown, hts, hK, hlk, hrt, hok, hR⟩ := C
  intro H locs ls L st μ r h hL hst hW hS
  unfold zi_if at h
  split at h
  · rename_i x st
    exact lv_if_lt hx hb hd ht (fun hc => hk1 H locs ls L st μ r (by rw [if_pos hc] at h; exact h) hL (zk_wtl hst) hW hS) (fun hc => hk2 H locs ls L st μ r (by rw [if_neg (hc)] at h; exact h) hL (zk_wtl hst) hW hS)
  · cases h
theorem zs_if_ge {X : ZX} {E : ZE} {own : String} {cc : ByteArray} {nL : Nat} {ret : Option FieldType} {rm : Room} {ρ : Type} {q : ρ → ZR} {pc : Nat} {κt κf : ZK ρ} {off : Int} {tgt : Nat} (C : zk_X X E own cc nL ret rm) (hd : decode cc pc = .ok (.ifCond .ge off, 3)) (ht : (pc : Int) + off = (tgt : Int)) (hk1 : zk_S X E nL q (tgt) κt) (hk2 : zk_S X E nL q (pc + 3) κf) : zk_S X E nL q (pc) (zi_if (fun x => 0 ≤ x) κt κf) := by
  obtain ⟨p, l, e, R, s, m, args, below, meth, c⟩ := X
  obtain ⟨hx, hb, hml, hown, hts, hK, hlk, hrt, hok, hR⟩ := C
  intro H locs ls L st μ r h hL hst hW hS
  unfold zi_if at h
  split at h
  · rename_i x st
    exact lv_if_ge hx hb hd ht (fun hc => hk1 H locs ls L st μ r (by rw [if_pos hc] at h; exact h) hL (zk_wtl hst) hW hS) (fun hc => hk2 H locs ls L st μ r (by rw [if_neg (hc)] at h; exact h) hL (zk_wtl hst) hW hS)
  · cases h
theorem zs_if_gt {X : ZX} {E : ZE} {own : String} {cc : ByteArray} {nL : Nat} {ret : Option FieldType} {rm : Room} {ρ : Type} {q : ρ → ZR} {pc : Nat} {κt κf : ZK ρ} {off : Int} {tgt : Nat} (C : zk_X X E own cc nL ret rm) (hd : decode cc pc = .ok (.ifCond .gt off, 3)) (ht : (pc : Int) + off = (tgt : Int)) (hk1 : zk_S X E nL q (tgt) κt) (hk2 : zk_S X E nL q (pc + 3) κf) : zk_S X E nL q (pc) (zi_if (fun x => 0 < x) κt κf) := by
  obtain ⟨p, l, e, R, s, m, args, below, meth, c⟩ := X
  obtain ⟨hx, hb, hml, hown, hts, hK, hlk, hrt, hok, hR⟩ := C
  intro H locs ls L st μ r h hL hst hW hS
  unfold zi_if at h
  split at h
  · rename_i x st
    exact lv_if_gt hx hb hd ht (fun hc => hk1 H locs ls L st μ r (by rw [if_pos hc] at h; exact h) hL (zk_wtl hst) hW hS) (fun hc => hk2 H locs ls L st μ r (by rw [if_neg (hc)] at h; exact h) hL (zk_wtl hst) hW hS)
  · cases h
theorem zs_if_le {X : ZX} {E : ZE} {own : String} {cc : ByteArray} {nL : Nat} {ret : Option FieldType} {rm : Room} {ρ : Type} {q : ρ → ZR} {pc : Nat} {κt κf : ZK ρ} {off : Int} {tgt : Nat} (C : zk_X X E own cc nL ret rm) (hd : decode cc pc = .ok (.ifCond .le off, 3)) (ht : (pc : Int) + off = (tgt : Int)) (hk1 : zk_S X E nL q (tgt) κt) (hk2 : zk_S X E nL q (pc + 3) κf) : zk_S X E nL q (pc) (zi_if (fun x => x ≤ 0) κt κf) := by
  obtain ⟨p, l, e, R, s, m, args, below, meth, c⟩ := X
  obtain ⟨hx, hb, hml, hown, hts, hK, hlk, hrt, hok, hR⟩ := C
  intro H locs ls L st μ r h hL hst hW hS
  unfold zi_if at h
  split at h
  · rename_i x st
    exact lv_if_le hx hb hd ht (fun hc => hk1 H locs ls L st μ r (by rw [if_pos hc] at h; exact h) hL (zk_wtl hst) hW hS) (fun hc => hk2 H locs ls L st μ r (by rw [if_neg (hc)] at h; exact h) hL (zk_wtl hst) hW hS)
  · cases h
theorem zs_icmp_eq {X : ZX} {E : ZE} {own : String} {cc : ByteArray} {nL : Nat} {ret : Option FieldType} {rm : Room} {ρ : Type} {q : ρ → ZR} {pc : Nat} {κt κf : ZK ρ} {off : Int} {tgt : Nat} (C : zk_X X E own cc nL ret rm) (hd : decode cc pc = .ok (.if_icmp .eq off, 3)) (ht : (pc : Int) + off = (tgt : Int)) (hk1 : zk_S X E nL q (tgt) κt) (hk2 : zk_S X E nL q (pc + 3) κf) : zk_S X E nL q (pc) (zi_ic (fun x y => x = y) κt κf) := by
  obtain ⟨p, l, e, R, s, m, args, below, meth, c⟩ := X
  obtain ⟨hx, hb, hml, hown, hts, hK, hlk, hrt, hok, hR⟩ := C
  intro H locs ls L st μ r h hL hst hW hS
  unfold zi_ic at h
  split at h
  · rename_i y x st
    exact lv_icmp_eq hx hb hd ht (fun hc => hk1 H locs ls L st μ r (by rw [if_pos hc] at h; exact h) hL (zk_wtl (zk_wtl hst)) hW hS) (fun hc => hk2 H locs ls L st μ r (by rw [if_neg (hc)] at h; exact h) hL (zk_wtl (zk_wtl hst)) hW hS)
  · cases h
theorem zs_icmp_ne {X : ZX} {E : ZE} {own : String} {cc : ByteArray} {nL : Nat} {ret : Option FieldType} {rm : Room} {ρ : Type} {q : ρ → ZR} {pc : Nat} {κt κf : ZK ρ} {off : Int} {tgt : Nat} (C : zk_X X E own cc nL ret rm) (hd : decode cc pc = .ok (.if_icmp .ne off, 3)) (ht : (pc : Int) + off = (tgt : Int)) (hk1 : zk_S X E nL q (tgt) κt) (hk2 : zk_S X E nL q (pc + 3) κf) : zk_S X E nL q (pc) (zi_ic (fun x y => ¬ x = y) κt κf) := by
  obtain ⟨p, l, e, R, s, m, args, below, meth, c⟩ := X
  obtain ⟨hx, hb, hml, hown, hts, hK, hlk, hrt, hok, hR⟩ := C
  intro H locs ls L st μ r h hL hst hW hS
  unfold zi_ic at h
  split at h
  · rename_i y x st
    exact lv_icmp_ne hx hb hd ht (fun hc => hk1 H locs ls L st μ r (by rw [if_pos hc] at h; exact h) hL (zk_wtl (zk_wtl hst)) hW hS) (fun hc => hk2 H locs ls L st μ r (by rw [if_neg (fun z => z hc)] at h; exact h) hL (zk_wtl (zk_wtl hst)) hW hS)
  · cases h
theorem zs_icmp_lt {X : ZX} {E : ZE} {own : String} {cc : ByteArray} {nL : Nat} {ret : Option FieldType} {rm : Room} {ρ : Type} {q : ρ → ZR} {pc : Nat} {κt κf : ZK ρ} {off : Int} {tgt : Nat} (C : zk_X X E own cc nL ret rm) (hd : decode cc pc = .ok (.if_icmp .lt off, 3)) (ht : (pc : Int) + off = (tgt : Int)) (hk1 : zk_S X E nL q (tgt) κt) (hk2 : zk_S X E nL q (pc + 3) κf) : zk_S X E nL q (pc) (zi_ic (fun x y => x < y) κt κf) := by
  obtain ⟨p, l, e, R, s, m, args, below, meth, c⟩ := X
  obtain ⟨hx, hb, hml, hown, hts, hK, hlk, hrt, hok, hR⟩ := C
  intro H locs ls L st μ r h hL hst hW hS
  unfold zi_ic at h
  split at h
  · rename_i y x st
    exact lv_icmp_lt hx hb hd ht (fun hc => hk1 H locs ls L st μ r (by rw [if_pos hc] at h; exact h) hL (zk_wtl (zk_wtl hst)) hW hS) (fun hc => hk2 H locs ls L st μ r (by rw [if_neg (hc)] at h; exact h) hL (zk_wtl (zk_wtl hst)) hW hS)
  · cases h
theorem zs_icmp_ge {X : ZX} {E : ZE} {own : String} {cc : ByteArray} {nL : Nat} {ret : Option FieldType} {rm : Room} {ρ : Type} {q : ρ → ZR} {pc : Nat} {κt κf : ZK ρ} {off : Int} {tgt : Nat} (C : zk_X X E own cc nL ret rm) (hd : decode cc pc = .ok (.if_icmp .ge off, 3)) (ht : (pc : Int) + off = (tgt : Int)) (hk1 : zk_S X E nL q (tgt) κt) (hk2 : zk_S X E nL q (pc + 3) κf) : zk_S X E nL q (pc) (zi_ic (fun x y => y ≤ x) κt κf) := by
  obtain ⟨p, l, e, R, s, m, args, below, meth, c⟩ := X
  obtain ⟨hx, hb, hml, hown, hts, hK, hlk, hrt, hok, hR⟩ := C
  intro H locs ls L st μ r h hL hst hW hS
  unfold zi_ic at h
  split at h
  · rename_i y x st
    exact lv_icmp_ge hx hb hd ht (fun hc => hk1 H locs ls L st μ r (by rw [if_pos hc] at h; exact h) hL (zk_wtl (zk_wtl hst)) hW hS) (fun hc => hk2 H locs ls L st μ r (by rw [if_neg (hc)] at h; exact h) hL (zk_wtl (zk_wtl hst)) hW hS)
  · cases h
theorem zs_icmp_gt {X : ZX} {E : ZE} {own : String} {cc : ByteArray} {nL : Nat} {ret : Option FieldType} {rm : Room} {ρ : Type} {q : ρ → ZR} {pc : Nat} {κt κf : ZK ρ} {off : Int} {tgt : Nat} (C : zk_X X E own cc nL ret rm) (hd : decode cc pc = .ok (.if_icmp .gt off, 3)) (ht : (pc : Int) + off = (tgt : Int)) (hk1 : zk_S X E nL q (tgt) κt) (hk2 : zk_S X E nL q (pc + 3) κf) : zk_S X E nL q (pc) (zi_ic (fun x y => y < x) κt κf) := by
  obtain ⟨p, l, e, R, s, m, args, below, meth, c⟩ := X
  obtain ⟨hx, hb, hml, hown, hts, hK, hlk, hrt, hok, hR⟩ := C
  intro H locs ls L st μ r h hL hst hW hS
  unfold zi_ic at h
  split at h
  · rename_i y x st
    exact lv_icmp_gt hx hb hd ht (fun hc => hk1 H locs ls L st μ r (by rw [if_pos hc] at h; exact h) hL (zk_wtl (zk_wtl hst)) hW hS) (fun hc => hk2 H locs ls L st μ r (by rw [if_neg (hc)] at h; exact h) hL (zk_wtl (zk_wtl hst)) hW hS)
  · cases h
theorem zs_icmp_le {X : ZX} {E : ZE} {own : String} {cc : ByteArray} {nL : Nat} {ret : Option FieldType} {rm : Room} {ρ : Type} {q : ρ → ZR} {pc : Nat} {κt κf : ZK ρ} {off : Int} {tgt : Nat} (C : zk_X X E own cc nL ret rm) (hd : decode cc pc = .ok (.if_icmp .le off, 3)) (ht : (pc : Int) + off = (tgt : Int)) (hk1 : zk_S X E nL q (tgt) κt) (hk2 : zk_S X E nL q (pc + 3) κf) : zk_S X E nL q (pc) (zi_ic (fun x y => x ≤ y) κt κf) := by
  obtain ⟨p, l, e, R, s, m, args, below, meth, c⟩ := X
  obtain ⟨hx, hb, hml, hown, hts, hK, hlk, hrt, hok, hR⟩ := C
  intro H locs ls L st μ r h hL hst hW hS
  unfold zi_ic at h
  split at h
  · rename_i y x st
    exact lv_icmp_le hx hb hd ht (fun hc => hk1 H locs ls L st μ r (by rw [if_pos hc] at h; exact h) hL (zk_wtl (zk_wtl hst)) hW hS) (fun hc => hk2 H locs ls L st μ r (by rw [if_neg (hc)] at h; exact h) hL (zk_wtl (zk_wtl hst)) hW hS)
  · cases h
theorem zs_goto {X : ZX} {E : ZE} {own : String} {cc : ByteArray} {nL : Nat} {ret : Option FieldType} {rm : Room} {ρ : Type} {q : ρ → ZR} {pc : Nat} {κ : ZK ρ} {off : Int} {tgt : Nat} (C : zk_X X E own cc nL ret rm) (hd : decode cc pc = .ok (.goto off, 3)) (ht : (pc : Int) + off = (tgt : Int)) (hk : zk_S X E nL q (tgt) κ) : zk_S X E nL q (pc) κ := by
  obtain ⟨p, l, e, R, s, m, args, below, meth, c⟩ := X
  obtain ⟨hx, hb, hml, hown, hts, hK, hlk, hrt, hok, hR⟩ := C
  intro H locs ls L st μ r h hL hst hW hS
  exact lv_goto hx hb hd ht (hk H locs ls L st μ r h hL hst hW hS)
def zq_I (r : Int32 × ZM) : ZR := (some (.inl r.1), r.2)
def zq_J (r : Int64 × ZM) : ZR := (some (.inr (.inl r.1)), r.2)
def zq_V (r : ZM) : ZR := (none, r)
def zi_iret : ZK (Int32 × ZM) := fun _ st μ => match st with
  | [.inl x] => some (x, μ)
  | _ => none
theorem zs_iret {X : ZX} {E : ZE} {own : String} {cc : ByteArray} {nL : Nat} {rm : Room} {pc : Nat} (C : zk_X X E own cc nL (some .int) rm) (hd : decode cc pc = .ok (.ireturn, 1)) : zk_S X E nL zq_I pc zi_iret := by
  obtain ⟨p, l, e, R, s, m, args, below, meth, c⟩ := X
  obtain ⟨hx, hb, hml, hown, hts, hK, hlk, hrt, hok, hR⟩ := C
  intro H locs ls L st μ r h hL hst hW hS
  unfold zi_iret at h
  split at h
  · rename_i x
    cases h
    exact W.iret (v := x) hx hb hrt (fun t ht hW1 => ⟨rfl, ⟨by rw [ht]; exact hW, va_K.moved hW1.alike hK⟩, hS.F ht⟩) hS.2.2 hd hlk
  · cases h
def zk_zr (x : Int32) (μ : ZM) : Option (Int32 × ZM) := if x = 0 ∨ x = 1 then some (x, μ) else none
def zi_zret : ZK (Int32 × ZM) := fun _ st μ => match st with
  | [.inl x] => zk_zr x μ
  | _ => none
theorem zs_zret {X : ZX} {E : ZE} {own : String} {cc : ByteArray} {nL : Nat} {rm : Room} {pc : Nat} (C : zk_X X E own cc nL (some .boolean) rm) (hd : decode cc pc = .ok (.ireturn, 1)) : zk_S X E nL zq_I pc zi_zret := by
  obtain ⟨p, l, e, R, s, m, args, below, meth, c⟩ := X
  obtain ⟨hx, hb, hml, hown, hts, hK, hlk, hrt, hok, hR⟩ := C
  intro H locs ls L st μ r h hL hst hW hS
  unfold zi_zret at h
  split at h
  · rename_i x
    unfold zk_zr at h
    by_cases hx1 : x = 0 ∨ x = 1
    · rw [if_pos hx1] at h
      cases h
      have hn : narrow .boolean (.int x) = .int x := by rcases hx1 with rfl | rfl <;> decide
      exact W.zret (v := x) hx hb hrt hn (fun t ht hW1 => ⟨rfl, ⟨by rw [ht]; exact hW, va_K.moved hW1.alike hK⟩, hS.F ht⟩) hS.2.2 hd hlk
    · rw [if_neg hx1] at h; cases h
  · cases h
def zi_lret : ZK (Int64 × ZM) := fun _ st μ => match st with
  | [.inr (.inl x)] => some (x, μ)
  | _ => none
theorem zs_lret {X : ZX} {E : ZE} {own : String} {cc : ByteArray} {nL : Nat} {rm : Room} {pc : Nat} (C : zk_X X E own cc nL (some .long) rm) (hd : decode cc pc = .ok (.lreturn, 1)) : zk_S X E nL zq_J pc zi_lret := by
  obtain ⟨p, l, e, R, s, m, args, below, meth, c⟩ := X
  obtain ⟨hx, hb, hml, hown, hts, hK, hlk, hrt, hok, hR⟩ := C
  intro H locs ls L st μ r h hL hst hW hS
  unfold zi_lret at h
  split at h
  · rename_i x
    cases h
    exact W.lret (v := x) hx hb hrt (fun t ht hW1 => ⟨rfl, ⟨by rw [ht]; exact hW, va_K.moved hW1.alike hK⟩, hS.F ht⟩) hS.2.2 hd hlk
  · cases h
def zi_vret : ZK ZM := fun _ st μ => match st with
  | [] => some μ
  | _ => none
theorem zs_vret {X : ZX} {E : ZE} {own : String} {cc : ByteArray} {nL : Nat} {rm : Room} {pc : Nat} (C : zk_X X E own cc nL none rm) (hd : decode cc pc = .ok (.return_, 1)) : zk_S X E nL zq_V pc zi_vret := by
  obtain ⟨p, l, e, R, s, m, args, below, meth, c⟩ := X
  obtain ⟨hx, hb, hml, hown, hts, hK, hlk, hrt, hok, hR⟩ := C
  intro H locs ls L st μ r h hL hst hW hS
  unfold zi_vret at h
  split at h
  · cases h
    exact W.vret hx hb hrt (fun t ht hW1 => ⟨rfl, ⟨by rw [ht]; exact hW, va_K.moved hW1.alike hK⟩, hS.F ht⟩) hS.2.2 hd hlk
  · cases h
def zk_msk : List Bool → ZL → ZL
  | [], _ => []
  | _ :: _, [] => []
  | b :: bs, a :: l => (if b = true then a else none) :: zk_msk bs l
theorem zk_msk_le : ∀ (bs : List Bool) (l : ZL), bs.length = l.length → zk_le (zk_msk bs l) l
  | [], [], _ => trivial
  | [], _ :: _, h => by cases h
  | _ :: _, [], h => by cases h
  | true :: bs, none :: l, h => zk_msk_le bs l (by simpa using h)
  | true :: bs, some v :: l, h => ⟨rfl, zk_msk_le bs l (by simpa using h)⟩
  | false :: bs, a :: l, h => zk_msk_le bs l (by simpa using h)
def zi_cut {ρ : Type} (bs : List Bool) (κ : ZK ρ) : ZK ρ := fun L st μ => κ (zk_msk bs L) st μ
theorem zs_cut {X : ZX} {E : ZE} {nL : Nat} {ρ : Type} {q : ρ → ZR} {pc : Nat} {κ : ZK ρ} (bs : List Bool) (hb : bs.length = nL) (hk : zk_S X E nL q pc κ) : zk_S X E nL q pc (zi_cut bs κ) := by
  intro H locs ls L st μ r h hL hst hW hS
  exact hk H locs ls _ st μ r h (hL.less (zk_msk_le bs L (hb.trans hL.1.symm))) hst hW hS
