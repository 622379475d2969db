theorem zn_mem {D : va_G} {cl : List vw_C} {ws : va_W} {H : Heap} : va_P D cl ws H ↔ ∀ q ∈ ws, va_at D cl q H := ⟨fun h q hq => by
  obtain ⟨k, hk⟩ := List.getElem?_of_mem hq
  exact h k q hk, fun h k q hk => h q (List.mem_of_getElem? hk)⟩
/-- a row of references, another function that is the same within it -/
theorem zn_swapP {D : va_G} {cl : List vw_C} {l1 l2 : va_W} {a n : Nat} {c : ClassId} {f g : Nat → Option Nat} {H : Heap} (h : va_P D cl (l1 ++ (a, .inl (c, n, .inr (.inr (.inr (.inr f))))) :: l2) H) (hfg : ∀ i, i < n → f i = g i) : va_P D cl (l1 ++ (a, .inl (c, n, .inr (.inr (.inr (.inr g))))) :: l2) H := by
  rw [zn_mem] at h ⊢
  intro q hq
  have e : vp_cell c (n, .inr (.inr (.inr (.inr f)))) = vp_cell c (n, .inr (.inr (.inr (.inr g)))) := by
    rw [vp_cell_q, vp_cell_q]
    unfold arrV
    congr 2
    funext j
    show va_rf (f j.val) = va_rf (g j.val)
    rw [hfg j.val j.isLt]
  rcases List.mem_append.mp hq with h1 | h1
  · exact h q (List.mem_append_left _ h1)
  · rcases List.mem_cons.mp h1 with rfl | h1
    · have h2 := h _ (List.mem_append_right _ List.mem_cons_self)
      show H[a]? = some (vp_cell _ _)
      rw [← e]
      exact h2
    · exact h q (List.mem_append_right _ (List.mem_cons_of_mem _ h1))
theorem zn_swapD {A : Nat → Prop} {l1 l2 : va_W} {a : Nat} {x y : va_E} (h : va_D A (l1 ++ (a, x) :: l2)) : va_D A (l1 ++ (a, y) :: l2) := by
  have e : (l1 ++ (a, x) :: l2).set l1.length (a, y) = l1 ++ (a, y) :: l2 := by simp
  rw [← e]
  exact h.set (e0 := x) (by simp)
theorem zn_at0 {x y z : Nat × va_E} {w v : va_W} : (x :: y :: (w ++ z :: v))[w.length + 2]? = some z := by simp
theorem zn_at1 {x y z : Nat × va_E} {w v u : va_W} : (x :: (w ++ y :: (v ++ z :: u)))[w.length + 1 + (v.length + 1)]? = some z := by
  rw [show w.length + 1 + (v.length + 1) = (w.length + (v.length + 1)) + 1 by omega, List.getElem?_cons_succ, List.getElem?_append_right (by omega)]
  rw [show w.length + (v.length + 1) - w.length = v.length + 1 by omega, List.getElem?_cons_succ]
  simp
theorem zn_set1 {x y y' : Nat × va_E} {w v : va_W} : (x :: (w ++ y :: v)).set (w.length + 1) y' = x :: (w ++ y' :: v) := by simp
theorem zn_get1 {x y : Nat × va_E} {w v : va_W} : (x :: (w ++ y :: v))[w.length + 1]? = some y := by simp
theorem zd_0 : ∀ j, j < 3 → defaultValue (tyX0 j) = vp_V [.null, .int 0, .int 0] j
  | 0, _ => rfl
  | 1, _ => rfl
  | 2, _ => rfl
  | n + 3, h => absurd h (by omega)
theorem zd_1 : ∀ j, j < 3 → defaultValue (tyX1 j) = vp_V [.null, .int 0, .int 0] j
  | 0, _ => rfl
  | 1, _ => rfl
  | 2, _ => rfl
  | n + 3, h => absurd h (by omega)
theorem zd_2 : ∀ j, j < 4 → defaultValue (tyX2 j) = vp_V [.null, .int 0, .int 0, .int 0] j
  | 0, _ => rfl
  | 1, _ => rfl
  | 2, _ => rfl
  | 3, _ => rfl
  | n + 4, h => absurd h (by omega)
theorem zd_3 : ∀ j, j < 8 → defaultValue (tyX3 j) = vp_V [.null, .null, .null, .null, .int 0, .int 0, .int 0, .int 0] j
  | 0, _ => rfl
  | 1, _ => rfl
  | 2, _ => rfl
  | 3, _ => rfl
  | 4, _ => rfl
  | 5, _ => rfl
  | 6, _ => rfl
  | 7, _ => rfl
  | n + 8, h => absurd h (by omega)
theorem zd_4 : ∀ j, j < 8 → defaultValue (tyX4 j) = vp_V [.null, .null, .null, .null, .null, .null, .null, .int 0] j
  | 0, _ => rfl
  | 1, _ => rfl
  | 2, _ => rfl
  | 3, _ => rfl
  | 4, _ => rfl
  | 5, _ => rfl
  | 6, _ => rfl
  | 7, _ => rfl
  | n + 8, h => absurd h (by omega)
theorem zd_5 : ∀ j, j < 18 → defaultValue (tyX5 j) = vp_V [.null, .null, .null, .int 0, .null, .null, .int 0, .int 0, .null, .null, .int 0, .int 0, .int 0, .int 0, .null, .null, .null, .null] j
  | 0, _ => rfl
  | 1, _ => rfl
  | 2, _ => rfl
  | 3, _ => rfl
  | 4, _ => rfl
  | 5, _ => rfl
  | 6, _ => rfl
  | 7, _ => rfl
  | 8, _ => rfl
  | 9, _ => rfl
  | 10, _ => rfl
  | 11, _ => rfl
  | 12, _ => rfl
  | 13, _ => rfl
  | 14, _ => rfl
  | 15, _ => rfl
  | 16, _ => rfl
  | 17, _ => rfl
  | n + 18, h => absurd h (by omega)
theorem zp_X3_hd {cA : Nat → ClassId} {b : Nat} {w : va_W} (h : zp_X3_init cA b w) : ∃ (vs : List Value) (tl : va_W), w = (b, .inr (3, vs)) :: tl := by
  obtain ⟨q1, q2, q3, q4, rfl⟩ := h
  exact ⟨_, _, rfl⟩
theorem zp_X1_hd {cA : Nat → ClassId} {b : Nat} {w : va_W} (h : zp_X1_init cA b w) : ∃ (vs : List Value) (tl : va_W), w = (b, .inr (1, vs)) :: tl := by
  obtain ⟨q1, rfl⟩ := h
  exact ⟨_, _, rfl⟩
def zp_X0_init (cA : Nat → ClassId) (h0 : Nat) (w : va_W) : Prop := ∃ q0 : Nat, ∃ (b0 : Nat) (w0 : va_W), zp_X3_init cA b0 w0 ∧ ∃ (b1 : Nat) (w1 : va_W), zp_X3_init cA b1 w1 ∧ ∃ (b2 : Nat) (w2 : va_W), zp_X3_init cA b2 w2 ∧ ∃ (b3 : Nat) (w3 : va_W), zp_X3_init cA b3 w3 ∧ ∃ (b4 : Nat) (w4 : va_W), zp_X3_init cA b4 w4 ∧ ∃ (b5 : Nat) (w5 : va_W), zp_X3_init cA b5 w5 ∧ ∃ (b6 : Nat) (w6 : va_W), zp_X3_init cA b6 w6 ∧ ∃ (b7 : Nat) (w7 : va_W), zp_X3_init cA b7 w7 ∧ w = (h0, .inr (0, [.ref q0, .int 0, .int 0])) :: (q0, .inl (cA 4, 8, .inr (.inr (.inr (.inr (fun i => [b0, b1, b2, b3, b4, b5, b6, b7][i]?)))))) :: (((((((w0 ++ w1) ++ w2) ++ w3) ++ w4) ++ w5) ++ w6) ++ w7)
set_option maxRecDepth 100000 in
set_option maxHeartbeats 4000000 in
theorem c_X0_init : zn_C yX0_init cX0_init 2 ({ frames := 2, cells := 41, slots := 296, locals := 32 } : Room) 41 296 0 [.null, .int 0, .int 0] (zp_X0_init) := by
  intro l D cA h0 sz
  refine Met.ofW (cc := cX0_init) (maxL := 2) (ret := none) (by decide) rfl ?_
  intro p e s m args below meth c s₁ B hml hv
  obtain ⟨rfl, hsz, hP, hK, hD0, hZ⟩ := hv
  have hx := B.exec
  have hb := B.bytes
  have hr := B.returns
  have hts0 := atoms_spec (ws := .code yX0_init cX0_init 2 none :: zk_T) B.pre
  have hts : ∀ w ∈ zk_T, w.before _ s = true := fun w hw => hts0 w (List.mem_cons_of_mem _ hw)
  have hown : s.vm.findClass RX0 = some m.cls := findClass_of_methodNamed B.named
  have hlocks := B.notSynchronized
  have hin : meth.name = "<init>" := (name_of_methodNamed B.named B.method).1
  subst hsz
  have hD := hD0.self (sz := s.heap.size)
  generalize hAe : va_A [(h0, .inr (0, [.null, .int 0, .int 0]))] s.heap.size = A at hD ⊢
  have hA : ∀ q : Nat, s.heap.size ≤ q → A q := fun q h => by rw [← hAe]; exact Or.inr h
  have hS : va_S A s.heap s.heap [] := va_S.rf
  have hl := lv_entry ([.ref h0]) (n := 2) (Nat.le_of_ble_eq_true rfl)
  rw [lg_entry_eq]
  generalize (lg_sl ([.ref h0]) ++ List.replicate (2 - (lg_sl ([.ref h0])).length) Slot.unset).toArray = ls at hl ⊢
  have hl : lv_has ls 2 [(0, .ref h0)] := hl
  refine lv_aload_n hx hb dX0_init_0 rfl (lv_at hl 0 rfl) ?_
  refine W.objInit hx hb hown (hts _ zx_88) (hts _ zx_41) (hts _ zx_42) rfl (by rw [hml]; exact hl.1) rfl dX0_init_1 (Nat.le_of_ble_eq_true rfl) (Nat.le_of_ble_eq_true rfl) ?_
  refine W.eq (g2 := F0 m 4 ls []) rfl ?_
  refine lv_aload_n hx hb dX0_init_4 rfl (lv_at hl 0 rfl) ?_
  refine lv_bipush (v := 8) hx hb dX0_init_5 (by decide) ?_
  refine zn_row (N' := 8) (k := 4) (t0 := 3) (own := RX0) (C := RX3) hx hb hown (hts _ zx_89) hZ.2.2.2.2.1 rfl hK hP hD hS hA (by decide) (by decide) (by decide) (Nat.le_of_ble_eq_true rfl) (Nat.le_of_ble_eq_true rfl) dX0_init_7 (fun q0 H hP hD hS => ?_)
  have hP : va_P D vwCl ([(h0, .inr (0, [.null, .int 0, .int 0])), (q0, .inl (cA 4, 8, .inr (.inr (.inr (.inr (fun _ => none))))))]) H := hP
  have hD : va_D A ([(h0, .inr (0, [.null, .int 0, .int 0])), (q0, .inl (cA 4, 8, .inr (.inr (.inr (.inr (fun _ => none))))))]) := hD
  refine va_putF (D := D) (ci := 0) (v := .ref q0) (ty := .array (.object "LongestWed$Town")) (C := RX0) (T := TX0) (N := 3) hx hb hts zl_0 tyX0 tyX0_ok nmX0 hown hK hP hD hS 0 rfl rfl 0 (by decide) (hts _ zw_92) (fun _ h9 => h9) rfl hin rfl (by decide +kernel) rfl rfl (Nat.le_of_ble_eq_true rfl) dX0_init_10 (fun H locs hP hD hS => ?_)
  have hP : va_P D vwCl ([(h0, .inr (0, [.ref q0, .int 0, .int 0])), (q0, .inl (cA 4, 8, .inr (.inr (.inr (.inr (fun _ => none))))))]) H := hP
  have hD : va_D A ([(h0, .inr (0, [.ref q0, .int 0, .int 0])), (q0, .inl (cA 4, 8, .inr (.inr (.inr (.inr (fun _ => none))))))]) := hD
  refine lv_aload_n hx hb dX0_init_13 rfl (lv_at hl 0 rfl) ?_
  refine lv_iconst (v := 0) hx hb dX0_init_14 (by decide) ?_
  refine va_put (D := D) (ci := 0) (v := .int 0) (ty := .int) (C := RX0) (T := TX0) (N := 3) hx hb hts zl_0 tyX0 tyX0_ok nmX0 hown hK hP hD hS 0 rfl rfl 1 (by decide) (hts _ zw_93) (fun _ h9 => h9) rfl (by decide +kernel) rfl rfl (Nat.le_of_ble_eq_true rfl) dX0_init_15 (fun H locs hP hD hS => ?_)
  have hP : va_P D vwCl ([(h0, .inr (0, [.ref q0, .int 0, .int 0])), (q0, .inl (cA 4, 8, .inr (.inr (.inr (.inr (fun _ => none))))))]) H := hP
  have hD : va_D A ([(h0, .inr (0, [.ref q0, .int 0, .int 0])), (q0, .inl (cA 4, 8, .inr (.inr (.inr (.inr (fun _ => none))))))]) := hD
  refine lv_aload_n hx hb dX0_init_18 rfl (lv_at hl 0 rfl) ?_
  refine lv_iconst (v := 0) hx hb dX0_init_19 (by decide) ?_
  refine va_put (D := D) (ci := 0) (v := .int 0) (ty := .int) (C := RX0) (T := TX0) (N := 3) hx hb hts zl_0 tyX0 tyX0_ok nmX0 hown hK hP hD hS 0 rfl rfl 2 (by decide) (hts _ zw_94) (fun _ h9 => h9) rfl (by decide +kernel) rfl rfl (Nat.le_of_ble_eq_true rfl) dX0_init_20 (fun H locs hP hD hS => ?_)
  have hP : va_P D vwCl ([(h0, .inr (0, [.ref q0, .int 0, .int 0])), (q0, .inl (cA 4, 8, .inr (.inr (.inr (.inr (fun _ => none))))))]) H := hP
  have hD : va_D A ([(h0, .inr (0, [.ref q0, .int 0, .int 0])), (q0, .inl (cA 4, 8, .inr (.inr (.inr (.inr (fun _ => none))))))]) := hD
  refine lv_iconst (v := 0) hx hb dX0_init_23 (by decide) ?_
  refine lv_istore_n (lv' := [(1, .int 0), (0, .ref h0)]) hx hb dX0_init_24 rfl hl (by decide) rfl (fun ls hl => ?_)
  refine lv_iload_n hx hb dX0_init_25 rfl (lv_at hl 0 rfl) ?_
  refine lv_bipush (v := 8) hx hb dX0_init_26 (by decide) ?_
  refine lv_icmp_ge (tgt := 50) hx hb dX0_init_28 (by decide) (fun hc => absurd hc (by decide)) (fun _ => ?_)
  refine lv_aload_n hx hb dX0_init_31 rfl (lv_at hl 1 rfl) ?_
  refine va_get (D := D) (ci := 0) (v := .ref q0) (C := RX0) (T := TX0) (N := 3) hx hb hts zl_0 hown hK hP 0 rfl rfl 0 (by decide) (hts _ zw_92) (fun _ h9 => h9) rfl dX0_init_32 ?_
  refine lv_iload_n hx hb dX0_init_35 rfl (lv_at hl 0 rfl) ?_
  refine zn_ni (own := RX0) (C := RX3) (T := TX3) (N := 8) (ci := 3) (ty := tyX3) (fs := [.null, .null, .null, .null, .int 0, .int 0, .int 0, .int 0]) (y := yX3_init) (cc1 := cX3_init) (nL1 := 1) (rm1 := ({ frames := 1, cells := 4, slots := 28, locals := 12 } : Room)) (mc := 4) (ms := 28) (PW := zp_X3_init) hx hb hml hl.1 hown hts hZ hK hP hD hS hA zl_3 tyX3_ok rfl zd_3 zx_89 zx_44 zw_27 c_X3_init zx_47 zx_46 (Or.inr hZ.1) rfl rfl (by decide +kernel) rfl rfl ⟨(Nat.le_of_ble_eq_true rfl), (Nat.le_of_ble_eq_true rfl)⟩ (Nat.le_of_ble_eq_true rfl) (Nat.le_of_ble_eq_true rfl) (Nat.le_of_ble_eq_true rfl) dX0_init_36 dX0_init_39 dX0_init_40 (fun b0 w0 H locs hw0 hP hD hS => ?_)
  have hP : va_P D vwCl ((h0, .inr (0, [.ref q0, .int 0, .int 0])) :: (q0, .inl (cA 4, 8, .inr (.inr (.inr (.inr (fun _ => none)))))) :: w0) H := hP
  have hD : va_D A ((h0, .inr (0, [.ref q0, .int 0, .int 0])) :: (q0, .inl (cA 4, 8, .inr (.inr (.inr (.inr (fun _ => none)))))) :: w0) := hD
  obtain ⟨vs0, tl0, ew0⟩ := zp_X3_hd hw0
  refine va_astq (D := D) (tys := zn_ty cA) (r := (RX3, TX3, 8)) (vs := vs0) (i := 0) hx hb hK hP hD hS 1 3 (([] : va_W).length + 2) 3 rfl rfl (by show (_ :: _ :: (([] : va_W) ++ w0))[_]? = _; rw [ew0]; exact zn_at0) rfl (by unfold vp_in; decide) dX0_init_43 (fun H locs hP hD hS => ?_)
  have hP : va_P D vwCl ((h0, .inr (0, [.ref q0, .int 0, .int 0])) :: (q0, .inl (cA 4, 8, .inr (.inr (.inr (.inr (va_up (fun _ => none) (Int32.toNatClampNeg 0) (some b0))))))) :: w0) H := hP
  have hD : va_D A ((h0, .inr (0, [.ref q0, .int 0, .int 0])) :: (q0, .inl (cA 4, 8, .inr (.inr (.inr (.inr (va_up (fun _ => none) (Int32.toNatClampNeg 0) (some b0))))))) :: w0) := hD
  refine lv_iinc (v := 1) (lv' := [(1, .int 1), (0, .ref h0)]) hx hb dX0_init_44 hl (k := 0) rfl (by decide) (by decide) rfl (fun ls hl => ?_)
  refine lv_goto (tgt := 25) hx hb dX0_init_47 (by decide) ?_
  refine lv_iload_n hx hb dX0_init_25 rfl (lv_at hl 0 rfl) ?_
  refine lv_bipush (v := 8) hx hb dX0_init_26 (by decide) ?_
  refine lv_icmp_ge (tgt := 50) hx hb dX0_init_28 (by decide) (fun hc => absurd hc (by decide)) (fun _ => ?_)
  refine lv_aload_n hx hb dX0_init_31 rfl (lv_at hl 1 rfl) ?_
  refine va_get (D := D) (ci := 0) (v := .ref q0) (C := RX0) (T := TX0) (N := 3) hx hb hts zl_0 hown hK hP 0 rfl rfl 0 (by decide) (hts _ zw_92) (fun _ h9 => h9) rfl dX0_init_32 ?_
  refine lv_iload_n hx hb dX0_init_35 rfl (lv_at hl 0 rfl) ?_
  refine zn_ni (own := RX0) (C := RX3) (T := TX3) (N := 8) (ci := 3) (ty := tyX3) (fs := [.null, .null, .null, .null, .int 0, .int 0, .int 0, .int 0]) (y := yX3_init) (cc1 := cX3_init) (nL1 := 1) (rm1 := ({ frames := 1, cells := 4, slots := 28, locals := 12 } : Room)) (mc := 4) (ms := 28) (PW := zp_X3_init) hx hb hml hl.1 hown hts hZ hK hP hD hS hA zl_3 tyX3_ok rfl zd_3 zx_89 zx_44 zw_27 c_X3_init zx_47 zx_46 (Or.inr hZ.1) rfl rfl (by decide +kernel) rfl rfl ⟨(Nat.le_of_ble_eq_true rfl), (Nat.le_of_ble_eq_true rfl)⟩ (Nat.le_of_ble_eq_true rfl) (Nat.le_of_ble_eq_true rfl) (Nat.le_of_ble_eq_true rfl) dX0_init_36 dX0_init_39 dX0_init_40 (fun b1 w1 H locs hw1 hP hD hS => ?_)
  have hP : va_P D vwCl ((h0, .inr (0, [.ref q0, .int 0, .int 0])) :: (q0, .inl (cA 4, 8, .inr (.inr (.inr (.inr (va_up (fun _ => none) (Int32.toNatClampNeg 0) (some b0))))))) :: (w0 ++ w1)) H := hP
  have hD : va_D A ((h0, .inr (0, [.ref q0, .int 0, .int 0])) :: (q0, .inl (cA 4, 8, .inr (.inr (.inr (.inr (va_up (fun _ => none) (Int32.toNatClampNeg 0) (some b0))))))) :: (w0 ++ w1)) := hD
  obtain ⟨vs1, tl1, ew1⟩ := zp_X3_hd hw1
  refine va_astq (D := D) (tys := zn_ty cA) (r := (RX3, TX3, 8)) (vs := vs1) (i := 1) hx hb hK hP hD hS 1 3 (w0.length + 2) 3 rfl rfl (by rw [ew1]; exact zn_at0) rfl (by unfold vp_in; decide) dX0_init_43 (fun H locs hP hD hS => ?_)
  have hP : va_P D vwCl ((h0, .inr (0, [.ref q0, .int 0, .int 0])) :: (q0, .inl (cA 4, 8, .inr (.inr (.inr (.inr (va_up (va_up (fun _ => none) (Int32.toNatClampNeg 0) (some b0)) (Int32.toNatClampNeg 1) (some b1))))))) :: (w0 ++ w1)) H := hP
  have hD : va_D A ((h0, .inr (0, [.ref q0, .int 0, .int 0])) :: (q0, .inl (cA 4, 8, .inr (.inr (.inr (.inr (va_up (va_up (fun _ => none) (Int32.toNatClampNeg 0) (some b0)) (Int32.toNatClampNeg 1) (some b1))))))) :: (w0 ++ w1)) := hD
  refine lv_iinc (v := 2) (lv' := [(1, .int 2), (0, .ref h0)]) hx hb dX0_init_44 hl (k := 0) rfl (by decide) (by decide) rfl (fun ls hl => ?_)
  refine lv_goto (tgt := 25) hx hb dX0_init_47 (by decide) ?_
  refine lv_iload_n hx hb dX0_init_25 rfl (lv_at hl 0 rfl) ?_
  refine lv_bipush (v := 8) hx hb dX0_init_26 (by decide) ?_
  refine lv_icmp_ge (tgt := 50) hx hb dX0_init_28 (by decide) (fun hc => absurd hc (by decide)) (fun _ => ?_)
  refine lv_aload_n hx hb dX0_init_31 rfl (lv_at hl 1 rfl) ?_
  refine va_get (D := D) (ci := 0) (v := .ref q0) (C := RX0) (T := TX0) (N := 3) hx hb hts zl_0 hown hK hP 0 rfl rfl 0 (by decide) (hts _ zw_92) (fun _ h9 => h9) rfl dX0_init_32 ?_
  refine lv_iload_n hx hb dX0_init_35 rfl (lv_at hl 0 rfl) ?_
  refine zn_ni (own := RX0) (C := RX3) (T := TX3) (N := 8) (ci := 3) (ty := tyX3) (fs := [.null, .null, .null, .null, .int 0, .int 0, .int 0, .int 0]) (y := yX3_init) (cc1 := cX3_init) (nL1 := 1) (rm1 := ({ frames := 1, cells := 4, slots := 28, locals := 12 } : Room)) (mc := 4) (ms := 28) (PW := zp_X3_init) hx hb hml hl.1 hown hts hZ hK hP hD hS hA zl_3 tyX3_ok rfl zd_3 zx_89 zx_44 zw_27 c_X3_init zx_47 zx_46 (Or.inr hZ.1) rfl rfl (by decide +kernel) rfl rfl ⟨(Nat.le_of_ble_eq_true rfl), (Nat.le_of_ble_eq_true rfl)⟩ (Nat.le_of_ble_eq_true rfl) (Nat.le_of_ble_eq_true rfl) (Nat.le_of_ble_eq_true rfl) dX0_init_36 dX0_init_39 dX0_init_40 (fun b2 w2 H locs hw2 hP hD hS => ?_)
  have hP : va_P D vwCl ((h0, .inr (0, [.ref q0, .int 0, .int 0])) :: (q0, .inl (cA 4, 8, .inr (.inr (.inr (.inr (va_up (va_up (fun _ => none) (Int32.toNatClampNeg 0) (some b0)) (Int32.toNatClampNeg 1) (some b1))))))) :: ((w0 ++ w1) ++ w2)) H := hP
  have hD : va_D A ((h0, .inr (0, [.ref q0, .int 0, .int 0])) :: (q0, .inl (cA 4, 8, .inr (.inr (.inr (.inr (va_up (va_up (fun _ => none) (Int32.toNatClampNeg 0) (some b0)) (Int32.toNatClampNeg 1) (some b1))))))) :: ((w0 ++ w1) ++ w2)) := hD
  obtain ⟨vs2, tl2, ew2⟩ := zp_X3_hd hw2
  refine va_astq (D := D) (tys := zn_ty cA) (r := (RX3, TX3, 8)) (vs := vs2) (i := 2) hx hb hK hP hD hS 1 3 ((w0 ++ w1).length + 2) 3 rfl rfl (by rw [ew2]; exact zn_at0) rfl (by unfold vp_in; decide) dX0_init_43 (fun H locs hP hD hS => ?_)
  have hP : va_P D vwCl ((h0, .inr (0, [.ref q0, .int 0, .int 0])) :: (q0, .inl (cA 4, 8, .inr (.inr (.inr (.inr (va_up (va_up (va_up (fun _ => none) (Int32.toNatClampNeg 0) (some b0)) (Int32.toNatClampNeg 1) (some b1)) (Int32.toNatClampNeg 2) (some b2))))))) :: ((w0 ++ w1) ++ w2)) H := hP
  have hD : va_D A ((h0, .inr (0, [.ref q0, .int 0, .int 0])) :: (q0, .inl (cA 4, 8, .inr (.inr (.inr (.inr (va_up (va_up (va_up (fun _ => none) (Int32.toNatClampNeg 0) (some b0)) (Int32.toNatClampNeg 1) (some b1)) (Int32.toNatClampNeg 2) (some b2))))))) :: ((w0 ++ w1) ++ w2)) := hD
  refine lv_iinc (v := 3) (lv' := [(1, .int 3), (0, .ref h0)]) hx hb dX0_init_44 hl (k := 0) rfl (by decide) (by decide) rfl (fun ls hl => ?_)
  refine lv_goto (tgt := 25) hx hb dX0_init_47 (by decide) ?_
  refine lv_iload_n hx hb dX0_init_25 rfl (lv_at hl 0 rfl) ?_
  refine lv_bipush (v := 8) hx hb dX0_init_26 (by decide) ?_
  refine lv_icmp_ge (tgt := 50) hx hb dX0_init_28 (by decide) (fun hc => absurd hc (by decide)) (fun _ => ?_)
  refine lv_aload_n hx hb dX0_init_31 rfl (lv_at hl 1 rfl) ?_
  refine va_get (D := D) (ci := 0) (v := .ref q0) (C := RX0) (T := TX0) (N := 3) hx hb hts zl_0 hown hK hP 0 rfl rfl 0 (by decide) (hts _ zw_92) (fun _ h9 => h9) rfl dX0_init_32 ?_
  refine lv_iload_n hx hb dX0_init_35 rfl (lv_at hl 0 rfl) ?_
  refine zn_ni (own := RX0) (C := RX3) (T := TX3) (N := 8) (ci := 3) (ty := tyX3) (fs := [.null, .null, .null, .null, .int 0, .int 0, .int 0, .int 0]) (y := yX3_init) (cc1 := cX3_init) (nL1 := 1) (rm1 := ({ frames := 1, cells := 4, slots := 28, locals := 12 } : Room)) (mc := 4) (ms := 28) (PW := zp_X3_init) hx hb hml hl.1 hown hts hZ hK hP hD hS hA zl_3 tyX3_ok rfl zd_3 zx_89 zx_44 zw_27 c_X3_init zx_47 zx_46 (Or.inr hZ.1) rfl rfl (by decide +kernel) rfl rfl ⟨(Nat.le_of_ble_eq_true rfl), (Nat.le_of_ble_eq_true rfl)⟩ (Nat.le_of_ble_eq_true rfl) (Nat.le_of_ble_eq_true rfl) (Nat.le_of_ble_eq_true rfl) dX0_init_36 dX0_init_39 dX0_init_40 (fun b3 w3 H locs hw3 hP hD hS => ?_)
  have hP : va_P D vwCl ((h0, .inr (0, [.ref q0, .int 0, .int 0])) :: (q0, .inl (cA 4, 8, .inr (.inr (.inr (.inr (va_up (va_up (va_up (fun _ => none) (Int32.toNatClampNeg 0) (some b0)) (Int32.toNatClampNeg 1) (some b1)) (Int32.toNatClampNeg 2) (some b2))))))) :: (((w0 ++ w1) ++ w2) ++ w3)) H := hP
  have hD : va_D A ((h0, .inr (0, [.ref q0, .int 0, .int 0])) :: (q0, .inl (cA 4, 8, .inr (.inr (.inr (.inr (va_up (va_up (va_up (fun _ => none) (Int32.toNatClampNeg 0) (some b0)) (Int32.toNatClampNeg 1) (some b1)) (Int32.toNatClampNeg 2) (some b2))))))) :: (((w0 ++ w1) ++ w2) ++ w3)) := hD
  obtain ⟨vs3, tl3, ew3⟩ := zp_X3_hd hw3
  refine va_astq (D := D) (tys := zn_ty cA) (r := (RX3, TX3, 8)) (vs := vs3) (i := 3) hx hb hK hP hD hS 1 3 (((w0 ++ w1) ++ w2).length + 2) 3 rfl rfl (by rw [ew3]; exact zn_at0) rfl (by unfold vp_in; decide) dX0_init_43 (fun H locs hP hD hS => ?_)
  have hP : va_P D vwCl ((h0, .inr (0, [.ref q0, .int 0, .int 0])) :: (q0, .inl (cA 4, 8, .inr (.inr (.inr (.inr (va_up (va_up (va_up (va_up (fun _ => none) (Int32.toNatClampNeg 0) (some b0)) (Int32.toNatClampNeg 1) (some b1)) (Int32.toNatClampNeg 2) (some b2)) (Int32.toNatClampNeg 3) (some b3))))))) :: (((w0 ++ w1) ++ w2) ++ w3)) H := hP
  have hD : va_D A ((h0, .inr (0, [.ref q0, .int 0, .int 0])) :: (q0, .inl (cA 4, 8, .inr (.inr (.inr (.inr (va_up (va_up (va_up (va_up (fun _ => none) (Int32.toNatClampNeg 0) (some b0)) (Int32.toNatClampNeg 1) (some b1)) (Int32.toNatClampNeg 2) (some b2)) (Int32.toNatClampNeg 3) (some b3))))))) :: (((w0 ++ w1) ++ w2) ++ w3)) := hD
  refine lv_iinc (v := 4) (lv' := [(1, .int 4), (0, .ref h0)]) hx hb dX0_init_44 hl (k := 0) rfl (by decide) (by decide) rfl (fun ls hl => ?_)
  refine lv_goto (tgt := 25) hx hb dX0_init_47 (by decide) ?_
  refine lv_iload_n hx hb dX0_init_25 rfl (lv_at hl 0 rfl) ?_
  refine lv_bipush (v := 8) hx hb dX0_init_26 (by decide) ?_
  refine lv_icmp_ge (tgt := 50) hx hb dX0_init_28 (by decide) (fun hc => absurd hc (by decide)) (fun _ => ?_)
  refine lv_aload_n hx hb dX0_init_31 rfl (lv_at hl 1 rfl) ?_
  refine va_get (D := D) (ci := 0) (v := .ref q0) (C := RX0) (T := TX0) (N := 3) hx hb hts zl_0 hown hK hP 0 rfl rfl 0 (by decide) (hts _ zw_92) (fun _ h9 => h9) rfl dX0_init_32 ?_
  refine lv_iload_n hx hb dX0_init_35 rfl (lv_at hl 0 rfl) ?_
  refine zn_ni (own := RX0) (C := RX3) (T := TX3) (N := 8) (ci := 3) (ty := tyX3) (fs := [.null, .null, .null, .null, .int 0, .int 0, .int 0, .int 0]) (y := yX3_init) (cc1 := cX3_init) (nL1 := 1) (rm1 := ({ frames := 1, cells := 4, slots := 28, locals := 12 } : Room)) (mc := 4) (ms := 28) (PW := zp_X3_init) hx hb hml hl.1 hown hts hZ hK hP hD hS hA zl_3 tyX3_ok rfl zd_3 zx_89 zx_44 zw_27 c_X3_init zx_47 zx_46 (Or.inr hZ.1) rfl rfl (by decide +kernel) rfl rfl ⟨(Nat.le_of_ble_eq_true rfl), (Nat.le_of_ble_eq_true rfl)⟩ (Nat.le_of_ble_eq_true rfl) (Nat.le_of_ble_eq_true rfl) (Nat.le_of_ble_eq_true rfl) dX0_init_36 dX0_init_39 dX0_init_40 (fun b4 w4 H locs hw4 hP hD hS => ?_)
  have hP : va_P D vwCl ((h0, .inr (0, [.ref q0, .int 0, .int 0])) :: (q0, .inl (cA 4, 8, .inr (.inr (.inr (.inr (va_up (va_up (va_up (va_up (fun _ => none) (Int32.toNatClampNeg 0) (some b0)) (Int32.toNatClampNeg 1) (some b1)) (Int32.toNatClampNeg 2) (some b2)) (Int32.toNatClampNeg 3) (some b3))))))) :: ((((w0 ++ w1) ++ w2) ++ w3) ++ w4)) H := hP
  have hD : va_D A ((h0, .inr (0, [.ref q0, .int 0, .int 0])) :: (q0, .inl (cA 4, 8, .inr (.inr (.inr (.inr (va_up (va_up (va_up (va_up (fun _ => none) (Int32.toNatClampNeg 0) (some b0)) (Int32.toNatClampNeg 1) (some b1)) (Int32.toNatClampNeg 2) (some b2)) (Int32.toNatClampNeg 3) (some b3))))))) :: ((((w0 ++ w1) ++ w2) ++ w3) ++ w4)) := hD
  obtain ⟨vs4, tl4, ew4⟩ := zp_X3_hd hw4
  refine va_astq (D := D) (tys := zn_ty cA) (r := (RX3, TX3, 8)) (vs := vs4) (i := 4) hx hb hK hP hD hS 1 3 ((((w0 ++ w1) ++ w2) ++ w3).length + 2) 3 rfl rfl (by rw [ew4]; exact zn_at0) rfl (by unfold vp_in; decide) dX0_init_43 (fun H locs hP hD hS => ?_)
  have hP : va_P D vwCl ((h0, .inr (0, [.ref q0, .int 0, .int 0])) :: (q0, .inl (cA 4, 8, .inr (.inr (.inr (.inr (va_up (va_up (va_up (va_up (va_up (fun _ => none) (Int32.toNatClampNeg 0) (some b0)) (Int32.toNatClampNeg 1) (some b1)) (Int32.toNatClampNeg 2) (some b2)) (Int32.toNatClampNeg 3) (some b3)) (Int32.toNatClampNeg 4) (some b4))))))) :: ((((w0 ++ w1) ++ w2) ++ w3) ++ w4)) H := hP
  have hD : va_D A ((h0, .inr (0, [.ref q0, .int 0, .int 0])) :: (q0, .inl (cA 4, 8, .inr (.inr (.inr (.inr (va_up (va_up (va_up (va_up (va_up (fun _ => none) (Int32.toNatClampNeg 0) (some b0)) (Int32.toNatClampNeg 1) (some b1)) (Int32.toNatClampNeg 2) (some b2)) (Int32.toNatClampNeg 3) (some b3)) (Int32.toNatClampNeg 4) (some b4))))))) :: ((((w0 ++ w1) ++ w2) ++ w3) ++ w4)) := hD
  refine lv_iinc (v := 5) (lv' := [(1, .int 5), (0, .ref h0)]) hx hb dX0_init_44 hl (k := 0) rfl (by decide) (by decide) rfl (fun ls hl => ?_)
  refine lv_goto (tgt := 25) hx hb dX0_init_47 (by decide) ?_
  refine lv_iload_n hx hb dX0_init_25 rfl (lv_at hl 0 rfl) ?_
  refine lv_bipush (v := 8) hx hb dX0_init_26 (by decide) ?_
  refine lv_icmp_ge (tgt := 50) hx hb dX0_init_28 (by decide) (fun hc => absurd hc (by decide)) (fun _ => ?_)
  refine lv_aload_n hx hb dX0_init_31 rfl (lv_at hl 1 rfl) ?_
  refine va_get (D := D) (ci := 0) (v := .ref q0) (C := RX0) (T := TX0) (N := 3) hx hb hts zl_0 hown hK hP 0 rfl rfl 0 (by decide) (hts _ zw_92) (fun _ h9 => h9) rfl dX0_init_32 ?_
  refine lv_iload_n hx hb dX0_init_35 rfl (lv_at hl 0 rfl) ?_
  refine zn_ni (own := RX0) (C := RX3) (T := TX3) (N := 8) (ci := 3) (ty := tyX3) (fs := [.null, .null, .null, .null, .int 0, .int 0, .int 0, .int 0]) (y := yX3_init) (cc1 := cX3_init) (nL1 := 1) (rm1 := ({ frames := 1, cells := 4, slots := 28, locals := 12 } : Room)) (mc := 4) (ms := 28) (PW := zp_X3_init) hx hb hml hl.1 hown hts hZ hK hP hD hS hA zl_3 tyX3_ok rfl zd_3 zx_89 zx_44 zw_27 c_X3_init zx_47 zx_46 (Or.inr hZ.1) rfl rfl (by decide +kernel) rfl rfl ⟨(Nat.le_of_ble_eq_true rfl), (Nat.le_of_ble_eq_true rfl)⟩ (Nat.le_of_ble_eq_true rfl) (Nat.le_of_ble_eq_true rfl) (Nat.le_of_ble_eq_true rfl) dX0_init_36 dX0_init_39 dX0_init_40 (fun b5 w5 H locs hw5 hP hD hS => ?_)
  have hP : va_P D vwCl ((h0, .inr (0, [.ref q0, .int 0, .int 0])) :: (q0, .inl (cA 4, 8, .inr (.inr (.inr (.inr (va_up (va_up (va_up (va_up (va_up (fun _ => none) (Int32.toNatClampNeg 0) (some b0)) (Int32.toNatClampNeg 1) (some b1)) (Int32.toNatClampNeg 2) (some b2)) (Int32.toNatClampNeg 3) (some b3)) (Int32.toNatClampNeg 4) (some b4))))))) :: (((((w0 ++ w1) ++ w2) ++ w3) ++ w4) ++ w5)) H := hP
  have hD : va_D A ((h0, .inr (0, [.ref q0, .int 0, .int 0])) :: (q0, .inl (cA 4, 8, .inr (.inr (.inr (.inr (va_up (va_up (va_up (va_up (va_up (fun _ => none) (Int32.toNatClampNeg 0) (some b0)) (Int32.toNatClampNeg 1) (some b1)) (Int32.toNatClampNeg 2) (some b2)) (Int32.toNatClampNeg 3) (some b3)) (Int32.toNatClampNeg 4) (some b4))))))) :: (((((w0 ++ w1) ++ w2) ++ w3) ++ w4) ++ w5)) := hD
  obtain ⟨vs5, tl5, ew5⟩ := zp_X3_hd hw5
  refine va_astq (D := D) (tys := zn_ty cA) (r := (RX3, TX3, 8)) (vs := vs5) (i := 5) hx hb hK hP hD hS 1 3 (((((w0 ++ w1) ++ w2) ++ w3) ++ w4).length + 2) 3 rfl rfl (by rw [ew5]; exact zn_at0) rfl (by unfold vp_in; decide) dX0_init_43 (fun H locs hP hD hS => ?_)
  have hP : va_P D vwCl ((h0, .inr (0, [.ref q0, .int 0, .int 0])) :: (q0, .inl (cA 4, 8, .inr (.inr (.inr (.inr (va_up (va_up (va_up (va_up (va_up (va_up (fun _ => none) (Int32.toNatClampNeg 0) (some b0)) (Int32.toNatClampNeg 1) (some b1)) (Int32.toNatClampNeg 2) (some b2)) (Int32.toNatClampNeg 3) (some b3)) (Int32.toNatClampNeg 4) (some b4)) (Int32.toNatClampNeg 5) (some b5))))))) :: (((((w0 ++ w1) ++ w2) ++ w3) ++ w4) ++ w5)) H := hP
  have hD : va_D A ((h0, .inr (0, [.ref q0, .int 0, .int 0])) :: (q0, .inl (cA 4, 8, .inr (.inr (.inr (.inr (va_up (va_up (va_up (va_up (va_up (va_up (fun _ => none) (Int32.toNatClampNeg 0) (some b0)) (Int32.toNatClampNeg 1) (some b1)) (Int32.toNatClampNeg 2) (some b2)) (Int32.toNatClampNeg 3) (some b3)) (Int32.toNatClampNeg 4) (some b4)) (Int32.toNatClampNeg 5) (some b5))))))) :: (((((w0 ++ w1) ++ w2) ++ w3) ++ w4) ++ w5)) := hD
  refine lv_iinc (v := 6) (lv' := [(1, .int 6), (0, .ref h0)]) hx hb dX0_init_44 hl (k := 0) rfl (by decide) (by decide) rfl (fun ls hl => ?_)
  refine lv_goto (tgt := 25) hx hb dX0_init_47 (by decide) ?_
  refine lv_iload_n hx hb dX0_init_25 rfl (lv_at hl 0 rfl) ?_
  refine lv_bipush (v := 8) hx hb dX0_init_26 (by decide) ?_
  refine lv_icmp_ge (tgt := 50) hx hb dX0_init_28 (by decide) (fun hc => absurd hc (by decide)) (fun _ => ?_)
  refine lv_aload_n hx hb dX0_init_31 rfl (lv_at hl 1 rfl) ?_
  refine va_get (D := D) (ci := 0) (v := .ref q0) (C := RX0) (T := TX0) (N := 3) hx hb hts zl_0 hown hK hP 0 rfl rfl 0 (by decide) (hts _ zw_92) (fun _ h9 => h9) rfl dX0_init_32 ?_
  refine lv_iload_n hx hb dX0_init_35 rfl (lv_at hl 0 rfl) ?_
  refine zn_ni (own := RX0) (C := RX3) (T := TX3) (N := 8) (ci := 3) (ty := tyX3) (fs := [.null, .null, .null, .null, .int 0, .int 0, .int 0, .int 0]) (y := yX3_init) (cc1 := cX3_init) (nL1 := 1) (rm1 := ({ frames := 1, cells := 4, slots := 28, locals := 12 } : Room)) (mc := 4) (ms := 28) (PW := zp_X3_init) hx hb hml hl.1 hown hts hZ hK hP hD hS hA zl_3 tyX3_ok rfl zd_3 zx_89 zx_44 zw_27 c_X3_init zx_47 zx_46 (Or.inr hZ.1) rfl rfl (by decide +kernel) rfl rfl ⟨(Nat.le_of_ble_eq_true rfl), (Nat.le_of_ble_eq_true rfl)⟩ (Nat.le_of_ble_eq_true rfl) (Nat.le_of_ble_eq_true rfl) (Nat.le_of_ble_eq_true rfl) dX0_init_36 dX0_init_39 dX0_init_40 (fun b6 w6 H locs hw6 hP hD hS => ?_)
  have hP : va_P D vwCl ((h0, .inr (0, [.ref q0, .int 0, .int 0])) :: (q0, .inl (cA 4, 8, .inr (.inr (.inr (.inr (va_up (va_up (va_up (va_up (va_up (va_up (fun _ => none) (Int32.toNatClampNeg 0) (some b0)) (Int32.toNatClampNeg 1) (some b1)) (Int32.toNatClampNeg 2) (some b2)) (Int32.toNatClampNeg 3) (some b3)) (Int32.toNatClampNeg 4) (some b4)) (Int32.toNatClampNeg 5) (some b5))))))) :: ((((((w0 ++ w1) ++ w2) ++ w3) ++ w4) ++ w5) ++ w6)) H := hP
  have hD : va_D A ((h0, .inr (0, [.ref q0, .int 0, .int 0])) :: (q0, .inl (cA 4, 8, .inr (.inr (.inr (.inr (va_up (va_up (va_up (va_up (va_up (va_up (fun _ => none) (Int32.toNatClampNeg 0) (some b0)) (Int32.toNatClampNeg 1) (some b1)) (Int32.toNatClampNeg 2) (some b2)) (Int32.toNatClampNeg 3) (some b3)) (Int32.toNatClampNeg 4) (some b4)) (Int32.toNatClampNeg 5) (some b5))))))) :: ((((((w0 ++ w1) ++ w2) ++ w3) ++ w4) ++ w5) ++ w6)) := hD
  obtain ⟨vs6, tl6, ew6⟩ := zp_X3_hd hw6
  refine va_astq (D := D) (tys := zn_ty cA) (r := (RX3, TX3, 8)) (vs := vs6) (i := 6) hx hb hK hP hD hS 1 3 ((((((w0 ++ w1) ++ w2) ++ w3) ++ w4) ++ w5).length + 2) 3 rfl rfl (by rw [ew6]; exact zn_at0) rfl (by unfold vp_in; decide) dX0_init_43 (fun H locs hP hD hS => ?_)
  have hP : va_P D vwCl ((h0, .inr (0, [.ref q0, .int 0, .int 0])) :: (q0, .inl (cA 4, 8, .inr (.inr (.inr (.inr (va_up (va_up (va_up (va_up (va_up (va_up (va_up (fun _ => none) (Int32.toNatClampNeg 0) (some b0)) (Int32.toNatClampNeg 1) (some b1)) (Int32.toNatClampNeg 2) (some b2)) (Int32.toNatClampNeg 3) (some b3)) (Int32.toNatClampNeg 4) (some b4)) (Int32.toNatClampNeg 5) (some b5)) (Int32.toNatClampNeg 6) (some b6))))))) :: ((((((w0 ++ w1) ++ w2) ++ w3) ++ w4) ++ w5) ++ w6)) H := hP
  have hD : va_D A ((h0, .inr (0, [.ref q0, .int 0, .int 0])) :: (q0, .inl (cA 4, 8, .inr (.inr (.inr (.inr (va_up (va_up (va_up (va_up (va_up (va_up (va_up (fun _ => none) (Int32.toNatClampNeg 0) (some b0)) (Int32.toNatClampNeg 1) (some b1)) (Int32.toNatClampNeg 2) (some b2)) (Int32.toNatClampNeg 3) (some b3)) (Int32.toNatClampNeg 4) (some b4)) (Int32.toNatClampNeg 5) (some b5)) (Int32.toNatClampNeg 6) (some b6))))))) :: ((((((w0 ++ w1) ++ w2) ++ w3) ++ w4) ++ w5) ++ w6)) := hD
  refine lv_iinc (v := 7) (lv' := [(1, .int 7), (0, .ref h0)]) hx hb dX0_init_44 hl (k := 0) rfl (by decide) (by decide) rfl (fun ls hl => ?_)
  refine lv_goto (tgt := 25) hx hb dX0_init_47 (by decide) ?_
  refine lv_iload_n hx hb dX0_init_25 rfl (lv_at hl 0 rfl) ?_
  refine lv_bipush (v := 8) hx hb dX0_init_26 (by decide) ?_
  refine lv_icmp_ge (tgt := 50) hx hb dX0_init_28 (by decide) (fun hc => absurd hc (by decide)) (fun _ => ?_)
  refine lv_aload_n hx hb dX0_init_31 rfl (lv_at hl 1 rfl) ?_
  refine va_get (D := D) (ci := 0) (v := .ref q0) (C := RX0) (T := TX0) (N := 3) hx hb hts zl_0 hown hK hP 0 rfl rfl 0 (by decide) (hts _ zw_92) (fun _ h9 => h9) rfl dX0_init_32 ?_
  refine lv_iload_n hx hb dX0_init_35 rfl (lv_at hl 0 rfl) ?_
  refine zn_ni (own := RX0) (C := RX3) (T := TX3) (N := 8) (ci := 3) (ty := tyX3) (fs := [.null, .null, .null, .null, .int 0, .int 0, .int 0, .int 0]) (y := yX3_init) (cc1 := cX3_init) (nL1 := 1) (rm1 := ({ frames := 1, cells := 4, slots := 28, locals := 12 } : Room)) (mc := 4) (ms := 28) (PW := zp_X3_init) hx hb hml hl.1 hown hts hZ hK hP hD hS hA zl_3 tyX3_ok rfl zd_3 zx_89 zx_44 zw_27 c_X3_init zx_47 zx_46 (Or.inr hZ.1) rfl rfl (by decide +kernel) rfl rfl ⟨(Nat.le_of_ble_eq_true rfl), (Nat.le_of_ble_eq_true rfl)⟩ (Nat.le_of_ble_eq_true rfl) (Nat.le_of_ble_eq_true rfl) (Nat.le_of_ble_eq_true rfl) dX0_init_36 dX0_init_39 dX0_init_40 (fun b7 w7 H locs hw7 hP hD hS => ?_)
  have hP : va_P D vwCl ((h0, .inr (0, [.ref q0, .int 0, .int 0])) :: (q0, .inl (cA 4, 8, .inr (.inr (.inr (.inr (va_up (va_up (va_up (va_up (va_up (va_up (va_up (fun _ => none) (Int32.toNatClampNeg 0) (some b0)) (Int32.toNatClampNeg 1) (some b1)) (Int32.toNatClampNeg 2) (some b2)) (Int32.toNatClampNeg 3) (some b3)) (Int32.toNatClampNeg 4) (some b4)) (Int32.toNatClampNeg 5) (some b5)) (Int32.toNatClampNeg 6) (some b6))))))) :: (((((((w0 ++ w1) ++ w2) ++ w3) ++ w4) ++ w5) ++ w6) ++ w7)) H := hP
  have hD : va_D A ((h0, .inr (0, [.ref q0, .int 0, .int 0])) :: (q0, .inl (cA 4, 8, .inr (.inr (.inr (.inr (va_up (va_up (va_up (va_up (va_up (va_up (va_up (fun _ => none) (Int32.toNatClampNeg 0) (some b0)) (Int32.toNatClampNeg 1) (some b1)) (Int32.toNatClampNeg 2) (some b2)) (Int32.toNatClampNeg 3) (some b3)) (Int32.toNatClampNeg 4) (some b4)) (Int32.toNatClampNeg 5) (some b5)) (Int32.toNatClampNeg 6) (some b6))))))) :: (((((((w0 ++ w1) ++ w2) ++ w3) ++ w4) ++ w5) ++ w6) ++ w7)) := hD
  obtain ⟨vs7, tl7, ew7⟩ := zp_X3_hd hw7
  refine va_astq (D := D) (tys := zn_ty cA) (r := (RX3, TX3, 8)) (vs := vs7) (i := 7) hx hb hK hP hD hS 1 3 (((((((w0 ++ w1) ++ w2) ++ w3) ++ w4) ++ w5) ++ w6).length + 2) 3 rfl rfl (by rw [ew7]; exact zn_at0) rfl (by unfold vp_in; decide) dX0_init_43 (fun H locs hP hD hS => ?_)
  have hP : va_P D vwCl ((h0, .inr (0, [.ref q0, .int 0, .int 0])) :: (q0, .inl (cA 4, 8, .inr (.inr (.inr (.inr (va_up (va_up (va_up (va_up (va_up (va_up (va_up (va_up (fun _ => none) (Int32.toNatClampNeg 0) (some b0)) (Int32.toNatClampNeg 1) (some b1)) (Int32.toNatClampNeg 2) (some b2)) (Int32.toNatClampNeg 3) (some b3)) (Int32.toNatClampNeg 4) (some b4)) (Int32.toNatClampNeg 5) (some b5)) (Int32.toNatClampNeg 6) (some b6)) (Int32.toNatClampNeg 7) (some b7))))))) :: (((((((w0 ++ w1) ++ w2) ++ w3) ++ w4) ++ w5) ++ w6) ++ w7)) H := hP
  have hD : va_D A ((h0, .inr (0, [.ref q0, .int 0, .int 0])) :: (q0, .inl (cA 4, 8, .inr (.inr (.inr (.inr (va_up (va_up (va_up (va_up (va_up (va_up (va_up (va_up (fun _ => none) (Int32.toNatClampNeg 0) (some b0)) (Int32.toNatClampNeg 1) (some b1)) (Int32.toNatClampNeg 2) (some b2)) (Int32.toNatClampNeg 3) (some b3)) (Int32.toNatClampNeg 4) (some b4)) (Int32.toNatClampNeg 5) (some b5)) (Int32.toNatClampNeg 6) (some b6)) (Int32.toNatClampNeg 7) (some b7))))))) :: (((((((w0 ++ w1) ++ w2) ++ w3) ++ w4) ++ w5) ++ w6) ++ w7)) := hD
  refine lv_iinc (v := 8) (lv' := [(1, .int 8), (0, .ref h0)]) hx hb dX0_init_44 hl (k := 0) rfl (by decide) (by decide) rfl (fun ls hl => ?_)
  refine lv_goto (tgt := 25) hx hb dX0_init_47 (by decide) ?_
  refine lv_iload_n hx hb dX0_init_25 rfl (lv_at hl 0 rfl) ?_
  refine lv_bipush (v := 8) hx hb dX0_init_26 (by decide) ?_
  refine lv_icmp_ge (tgt := 50) hx hb dX0_init_28 (by decide) (fun _ => ?_) (fun hc => absurd (by decide) hc)
  have hfg : ∀ i, i < 8 → (va_up (va_up (va_up (va_up (va_up (va_up (va_up (va_up (fun _ => none) (Int32.toNatClampNeg 0) (some b0)) (Int32.toNatClampNeg 1) (some b1)) (Int32.toNatClampNeg 2) (some b2)) (Int32.toNatClampNeg 3) (some b3)) (Int32.toNatClampNeg 4) (some b4)) (Int32.toNatClampNeg 5) (some b5)) (Int32.toNatClampNeg 6) (some b6)) (Int32.toNatClampNeg 7) (some b7)) i = (fun i => [b0, b1, b2, b3, b4, b5, b6, b7][i]?) i
    | 0, _ => rfl
    | 1, _ => rfl
    | 2, _ => rfl
    | 3, _ => rfl
    | 4, _ => rfl
    | 5, _ => rfl
    | 6, _ => rfl
    | 7, _ => rfl
    | n + 8, h => absurd h (by omega)
  have hP := zn_swapP (l1 := [(h0, .inr (0, [.ref q0, .int 0, .int 0]))]) (g := (fun i => [b0, b1, b2, b3, b4, b5, b6, b7][i]?)) hP hfg
  have hD := zn_swapD (l1 := [(h0, .inr (0, [.ref q0, .int 0, .int 0]))]) (y := .inl (cA 4, 8, .inr (.inr (.inr (.inr (fun i => [b0, b1, b2, b3, b4, b5, b6, b7][i]?)))))) hD
  refine W.widen (k := 41) (n := 296) (Nat.le_of_ble_eq_true rfl) (Nat.le_of_ble_eq_true rfl) ?_
  exact W.vret hx hb hr (fun t ht hW => ⟨⟨_, rfl, ⟨q0, b0, w0, hw0, b1, w1, hw1, b2, w2, hw2, b3, w3, hw3, b4, w4, hw4, b5, w5, hw5, b6, w6, hw6, b7, w7, hw7, rfl⟩, by rw [ht]; exact hP, va_K.moved hW.alike hK, hD⟩, hS.F ht⟩) hS.2.2 dX0_init_50
def zp_X4_init (cA : Nat → ClassId) (h0 : Nat) (w : va_W) : Prop := ∃ (t1 : Nat) (w1 : va_W), zp_X3_init cA t1 w1 ∧ ∃ (t2 : Nat) (w2 : va_W), zp_X0_init cA t2 w2 ∧ ∃ (t3 : Nat) (w3 : va_W), zp_X3_init cA t3 w3 ∧ ∃ (t4 : Nat) (w4 : va_W), zp_X0_init cA t4 w4 ∧ ∃ (t5 : Nat) (w5 : va_W), zp_X2_init cA t5 w5 ∧ ∃ (t6 : Nat) (w6 : va_W), zp_X3_init cA t6 w6 ∧ ∃ q0 : Nat, ∃ (b0 : Nat) (s0 : va_W), zp_X1_init cA b0 s0 ∧ ∃ (b1 : Nat) (s1 : va_W), zp_X1_init cA b1 s1 ∧ ∃ (b2 : Nat) (s2 : va_W), zp_X1_init cA b2 s2 ∧ ∃ (b3 : Nat) (s3 : va_W), zp_X1_init cA b3 s3 ∧ w = (h0, .inr (4, [.ref t1, .ref t2, .ref t3, .ref t4, .ref t5, .ref q0, .ref t6, .int 0])) :: (((((w1 ++ w2) ++ w3) ++ w4) ++ w5) ++ (q0, .inl (cA 5, 4, .inr (.inr (.inr (.inr (fun i => [b0, b1, b2, b3][i]?)))))) :: ((((w6 ++ s0) ++ s1) ++ s2) ++ s3))
set_option maxRecDepth 100000 in
set_option maxHeartbeats 4000000 in
theorem c_X4_init : zn_C yX4_init cX4_init 2 ({ frames := 3, cells := 110, slots := 902, locals := 53 } : Room) 110 902 4 [.null, .null, .null, .null, .null, .null, .null, .int 0] (zp_X4_init) := by
  intro l D cA h0 sz
  refine Met.ofW (cc := cX4_init) (maxL := 2) (ret := none) (by decide) rfl ?_
  intro p e s m args below meth c s₁ B hml hv
  obtain ⟨rfl, hsz, hP, hK, hD0, hZ⟩ := hv
  have hx := B.exec
  have hb := B.bytes
  have hr := B.returns
  have hts0 := atoms_spec (ws := .code yX4_init cX4_init 2 none :: zk_T) B.pre
  have hts : ∀ w ∈ zk_T, w.before _ s = true := fun w hw => hts0 w (List.mem_cons_of_mem _ hw)
  have hown : s.vm.findClass RX4 = some m.cls := findClass_of_methodNamed B.named
  have hlocks := B.notSynchronized
  have hin : meth.name = "<init>" := (name_of_methodNamed B.named B.method).1
  subst hsz
  have hD := hD0.self (sz := s.heap.size)
  generalize hAe : va_A [(h0, .inr (4, [.null, .null, .null, .null, .null, .null, .null, .int 0]))] s.heap.size = A at hD ⊢
  have hA : ∀ q : Nat, s.heap.size ≤ q → A q := fun q h => by rw [← hAe]; exact Or.inr h
  have hS : va_S A s.heap s.heap [] := va_S.rf
  have hl := lv_entry ([.ref h0]) (n := 2) (Nat.le_of_ble_eq_true rfl)
  rw [lg_entry_eq]
  generalize (lg_sl ([.ref h0]) ++ List.replicate (2 - (lg_sl ([.ref h0])).length) Slot.unset).toArray = ls at hl ⊢
  have hl : lv_has ls 2 [(0, .ref h0)] := hl
  refine lv_aload_n hx hb dX4_init_0 rfl (lv_at hl 0 rfl) ?_
  refine W.objInit hx hb hown (hts _ zx_40) (hts _ zx_41) (hts _ zx_42) rfl (by rw [hml]; exact hl.1) rfl dX4_init_1 (Nat.le_of_ble_eq_true rfl) (Nat.le_of_ble_eq_true rfl) ?_
  refine W.eq (g2 := F0 m 4 ls []) rfl ?_
  refine lv_aload_n hx hb dX4_init_4 rfl (lv_at hl 0 rfl) ?_
  refine zn_ni (own := RX4) (C := RX3) (T := TX3) (N := 8) (ci := 3) (ty := tyX3) (fs := [.null, .null, .null, .null, .int 0, .int 0, .int 0, .int 0]) (y := yX3_init) (cc1 := cX3_init) (nL1 := 1) (rm1 := ({ frames := 1, cells := 4, slots := 28, locals := 12 } : Room)) (mc := 4) (ms := 28) (PW := zp_X3_init) hx hb hml hl.1 hown hts hZ hK hP hD hS hA zl_3 tyX3_ok rfl zd_3 zx_43 zx_44 zw_27 c_X3_init zx_47 zx_46 (Or.inr hZ.2.1) rfl rfl (by decide +kernel) rfl rfl ⟨(Nat.le_of_ble_eq_true rfl), (Nat.le_of_ble_eq_true rfl)⟩ (Nat.le_of_ble_eq_true rfl) (Nat.le_of_ble_eq_true rfl) (Nat.le_of_ble_eq_true rfl) dX4_init_5 dX4_init_8 dX4_init_9 (fun t1 w1 H locs hw1 hP hD hS => ?_)
  have hP : va_P D vwCl ((h0, .inr (4, [.null, .null, .null, .null, .null, .null, .null, .int 0])) :: w1) H := hP
  have hD : va_D A ((h0, .inr (4, [.null, .null, .null, .null, .null, .null, .null, .int 0])) :: w1) := hD
  refine va_putF (D := D) (ci := 4) (v := .ref t1) (ty := .object "LongestWed$Town") (C := RX4) (T := TX4) (N := 8) hx hb hts zl_4 tyX4 tyX4_ok nmX4 hown hK hP hD hS 0 rfl rfl 0 (by decide) (hts _ zw_145) (fun _ h9 => h9) rfl hin rfl (by decide +kernel) rfl rfl (Nat.le_of_ble_eq_true rfl) dX4_init_12 (fun H locs hP hD hS => ?_)
  have hP : va_P D vwCl ((h0, .inr (4, [.ref t1, .null, .null, .null, .null, .null, .null, .int 0])) :: w1) H := hP
  have hD : va_D A ((h0, .inr (4, [.ref t1, .null, .null, .null, .null, .null, .null, .int 0])) :: w1) := hD
  refine lv_aload_n hx hb dX4_init_15 rfl (lv_at hl 0 rfl) ?_
  refine zn_ni (own := RX4) (C := RX0) (T := TX0) (N := 3) (ci := 0) (ty := tyX0) (fs := [.null, .int 0, .int 0]) (y := yX0_init) (cc1 := cX0_init) (nL1 := 2) (rm1 := ({ frames := 2, cells := 41, slots := 296, locals := 32 } : Room)) (mc := 41) (ms := 296) (PW := zp_X0_init) hx hb hml hl.1 hown hts hZ hK hP hD hS hA zl_0 tyX0_ok rfl zd_0 zx_83 zx_84 zw_28 c_X0_init zx_87 zx_86 (Or.inl zx_85) rfl rfl (by decide +kernel) rfl rfl ⟨(Nat.le_of_ble_eq_true rfl), (Nat.le_of_ble_eq_true rfl)⟩ (Nat.le_of_ble_eq_true rfl) (Nat.le_of_ble_eq_true rfl) (Nat.le_of_ble_eq_true rfl) dX4_init_16 dX4_init_19 dX4_init_20 (fun t2 w2 H locs hw2 hP hD hS => ?_)
  have hP : va_P D vwCl ((h0, .inr (4, [.ref t1, .null, .null, .null, .null, .null, .null, .int 0])) :: (w1 ++ w2)) H := hP
  have hD : va_D A ((h0, .inr (4, [.ref t1, .null, .null, .null, .null, .null, .null, .int 0])) :: (w1 ++ w2)) := hD
  refine va_putF (D := D) (ci := 4) (v := .ref t2) (ty := .object "LongestWed$Past") (C := RX4) (T := TX4) (N := 8) hx hb hts zl_4 tyX4 tyX4_ok nmX4 hown hK hP hD hS 0 rfl rfl 1 (by decide) (hts _ zw_146) (fun _ h9 => h9) rfl hin rfl (by decide +kernel) rfl rfl (Nat.le_of_ble_eq_true rfl) dX4_init_23 (fun H locs hP hD hS => ?_)
  have hP : va_P D vwCl ((h0, .inr (4, [.ref t1, .ref t2, .null, .null, .null, .null, .null, .int 0])) :: (w1 ++ w2)) H := hP
  have hD : va_D A ((h0, .inr (4, [.ref t1, .ref t2, .null, .null, .null, .null, .null, .int 0])) :: (w1 ++ w2)) := hD
  refine lv_aload_n hx hb dX4_init_26 rfl (lv_at hl 0 rfl) ?_
  refine zn_ni (own := RX4) (C := RX3) (T := TX3) (N := 8) (ci := 3) (ty := tyX3) (fs := [.null, .null, .null, .null, .int 0, .int 0, .int 0, .int 0]) (y := yX3_init) (cc1 := cX3_init) (nL1 := 1) (rm1 := ({ frames := 1, cells := 4, slots := 28, locals := 12 } : Room)) (mc := 4) (ms := 28) (PW := zp_X3_init) hx hb hml hl.1 hown hts hZ hK hP hD hS hA zl_3 tyX3_ok rfl zd_3 zx_43 zx_44 zw_27 c_X3_init zx_47 zx_46 (Or.inr hZ.2.1) rfl rfl (by decide +kernel) rfl rfl ⟨(Nat.le_of_ble_eq_true rfl), (Nat.le_of_ble_eq_true rfl)⟩ (Nat.le_of_ble_eq_true rfl) (Nat.le_of_ble_eq_true rfl) (Nat.le_of_ble_eq_true rfl) dX4_init_27 dX4_init_30 dX4_init_31 (fun t3 w3 H locs hw3 hP hD hS => ?_)
  have hP : va_P D vwCl ((h0, .inr (4, [.ref t1, .ref t2, .null, .null, .null, .null, .null, .int 0])) :: ((w1 ++ w2) ++ w3)) H := hP
  have hD : va_D A ((h0, .inr (4, [.ref t1, .ref t2, .null, .null, .null, .null, .null, .int 0])) :: ((w1 ++ w2) ++ w3)) := hD
  refine va_putF (D := D) (ci := 4) (v := .ref t3) (ty := .object "LongestWed$Town") (C := RX4) (T := TX4) (N := 8) hx hb hts zl_4 tyX4 tyX4_ok nmX4 hown hK hP hD hS 0 rfl rfl 2 (by decide) (hts _ zw_147) (fun _ h9 => h9) rfl hin rfl (by decide +kernel) rfl rfl (Nat.le_of_ble_eq_true rfl) dX4_init_34 (fun H locs hP hD hS => ?_)
  have hP : va_P D vwCl ((h0, .inr (4, [.ref t1, .ref t2, .ref t3, .null, .null, .null, .null, .int 0])) :: ((w1 ++ w2) ++ w3)) H := hP
  have hD : va_D A ((h0, .inr (4, [.ref t1, .ref t2, .ref t3, .null, .null, .null, .null, .int 0])) :: ((w1 ++ w2) ++ w3)) := hD
  refine lv_aload_n hx hb dX4_init_37 rfl (lv_at hl 0 rfl) ?_
  refine zn_ni (own := RX4) (C := RX0) (T := TX0) (N := 3) (ci := 0) (ty := tyX0) (fs := [.null, .int 0, .int 0]) (y := yX0_init) (cc1 := cX0_init) (nL1 := 2) (rm1 := ({ frames := 2, cells := 41, slots := 296, locals := 32 } : Room)) (mc := 41) (ms := 296) (PW := zp_X0_init) hx hb hml hl.1 hown hts hZ hK hP hD hS hA zl_0 tyX0_ok rfl zd_0 zx_83 zx_84 zw_28 c_X0_init zx_87 zx_86 (Or.inl zx_85) rfl rfl (by decide +kernel) rfl rfl ⟨(Nat.le_of_ble_eq_true rfl), (Nat.le_of_ble_eq_true rfl)⟩ (Nat.le_of_ble_eq_true rfl) (Nat.le_of_ble_eq_true rfl) (Nat.le_of_ble_eq_true rfl) dX4_init_38 dX4_init_41 dX4_init_42 (fun t4 w4 H locs hw4 hP hD hS => ?_)
  have hP : va_P D vwCl ((h0, .inr (4, [.ref t1, .ref t2, .ref t3, .null, .null, .null, .null, .int 0])) :: (((w1 ++ w2) ++ w3) ++ w4)) H := hP
  have hD : va_D A ((h0, .inr (4, [.ref t1, .ref t2, .ref t3, .null, .null, .null, .null, .int 0])) :: (((w1 ++ w2) ++ w3) ++ w4)) := hD
  refine va_putF (D := D) (ci := 4) (v := .ref t4) (ty := .object "LongestWed$Past") (C := RX4) (T := TX4) (N := 8) hx hb hts zl_4 tyX4 tyX4_ok nmX4 hown hK hP hD hS 0 rfl rfl 3 (by decide) (hts _ zw_148) (fun _ h9 => h9) rfl hin rfl (by decide +kernel) rfl rfl (Nat.le_of_ble_eq_true rfl) dX4_init_45 (fun H locs hP hD hS => ?_)
  have hP : va_P D vwCl ((h0, .inr (4, [.ref t1, .ref t2, .ref t3, .ref t4, .null, .null, .null, .int 0])) :: (((w1 ++ w2) ++ w3) ++ w4)) H := hP
  have hD : va_D A ((h0, .inr (4, [.ref t1, .ref t2, .ref t3, .ref t4, .null, .null, .null, .int 0])) :: (((w1 ++ w2) ++ w3) ++ w4)) := hD
  refine lv_aload_n hx hb dX4_init_48 rfl (lv_at hl 0 rfl) ?_
  refine zn_ni (own := RX4) (C := RX2) (T := TX2) (N := 4) (ci := 2) (ty := tyX2) (fs := [.null, .int 0, .int 0, .int 0]) (y := yX2_init) (cc1 := cX2_init) (nL1 := 1) (rm1 := ({ frames := 1, cells := 1, slots := 80, locals := 12 } : Room)) (mc := 1) (ms := 80) (PW := zp_X2_init) hx hb hml hl.1 hown hts hZ hK hP hD hS hA zl_2 tyX2_ok rfl zd_2 zx_103 zx_104 zw_29 c_X2_init zx_107 zx_106 (Or.inr hZ.2.2.1) rfl rfl (by decide +kernel) rfl rfl ⟨(Nat.le_of_ble_eq_true rfl), (Nat.le_of_ble_eq_true rfl)⟩ (Nat.le_of_ble_eq_true rfl) (Nat.le_of_ble_eq_true rfl) (Nat.le_of_ble_eq_true rfl) dX4_init_49 dX4_init_52 dX4_init_53 (fun t5 w5 H locs hw5 hP hD hS => ?_)
  have hP : va_P D vwCl ((h0, .inr (4, [.ref t1, .ref t2, .ref t3, .ref t4, .null, .null, .null, .int 0])) :: ((((w1 ++ w2) ++ w3) ++ w4) ++ w5)) H := hP
  have hD : va_D A ((h0, .inr (4, [.ref t1, .ref t2, .ref t3, .ref t4, .null, .null, .null, .int 0])) :: ((((w1 ++ w2) ++ w3) ++ w4) ++ w5)) := hD
  refine va_putF (D := D) (ci := 4) (v := .ref t5) (ty := .object "LongestWed$Tape") (C := RX4) (T := TX4) (N := 8) hx hb hts zl_4 tyX4 tyX4_ok nmX4 hown hK hP hD hS 0 rfl rfl 4 (by decide) (hts _ zw_149) (fun _ h9 => h9) rfl hin rfl (by decide +kernel) rfl rfl (Nat.le_of_ble_eq_true rfl) dX4_init_56 (fun H locs hP hD hS => ?_)
  have hP : va_P D vwCl ((h0, .inr (4, [.ref t1, .ref t2, .ref t3, .ref t4, .ref t5, .null, .null, .int 0])) :: ((((w1 ++ w2) ++ w3) ++ w4) ++ w5)) H := hP
  have hD : va_D A ((h0, .inr (4, [.ref t1, .ref t2, .ref t3, .ref t4, .ref t5, .null, .null, .int 0])) :: ((((w1 ++ w2) ++ w3) ++ w4) ++ w5)) := hD
  refine lv_aload_n hx hb dX4_init_59 rfl (lv_at hl 0 rfl) ?_
  refine lv_iconst (v := 4) hx hb dX4_init_60 (by decide) ?_
  refine zn_row (N' := 4) (k := 5) (t0 := 4) (own := RX4) (C := RX1) hx hb hown (hts _ zx_124) hZ.2.2.2.2.2 rfl hK hP hD hS hA (by decide) (by decide) (by decide) (Nat.le_of_ble_eq_true rfl) (Nat.le_of_ble_eq_true rfl) dX4_init_61 (fun q0 H hP hD hS => ?_)
  have hP : va_P D vwCl ((h0, .inr (4, [.ref t1, .ref t2, .ref t3, .ref t4, .ref t5, .null, .null, .int 0])) :: (((((w1 ++ w2) ++ w3) ++ w4) ++ w5) ++ [(q0, .inl (cA 5, 4, .inr (.inr (.inr (.inr (fun _ => none))))))])) H := hP
  have hD : va_D A ((h0, .inr (4, [.ref t1, .ref t2, .ref t3, .ref t4, .ref t5, .null, .null, .int 0])) :: (((((w1 ++ w2) ++ w3) ++ w4) ++ w5) ++ [(q0, .inl (cA 5, 4, .inr (.inr (.inr (.inr (fun _ => none))))))])) := hD
  refine va_putF (D := D) (ci := 4) (v := .ref q0) (ty := .array (.object "LongestWed$Sheet")) (C := RX4) (T := TX4) (N := 8) hx hb hts zl_4 tyX4 tyX4_ok nmX4 hown hK hP hD hS 0 rfl rfl 5 (by decide) (hts _ zw_150) (fun _ h9 => h9) rfl hin rfl (by decide +kernel) rfl rfl (Nat.le_of_ble_eq_true rfl) dX4_init_64 (fun H locs hP hD hS => ?_)
  have hP : va_P D vwCl ((h0, .inr (4, [.ref t1, .ref t2, .ref t3, .ref t4, .ref t5, .ref q0, .null, .int 0])) :: (((((w1 ++ w2) ++ w3) ++ w4) ++ w5) ++ [(q0, .inl (cA 5, 4, .inr (.inr (.inr (.inr (fun _ => none))))))])) H := hP
  have hD : va_D A ((h0, .inr (4, [.ref t1, .ref t2, .ref t3, .ref t4, .ref t5, .ref q0, .null, .int 0])) :: (((((w1 ++ w2) ++ w3) ++ w4) ++ w5) ++ [(q0, .inl (cA 5, 4, .inr (.inr (.inr (.inr (fun _ => none))))))])) := hD
  refine lv_aload_n hx hb dX4_init_67 rfl (lv_at hl 0 rfl) ?_
  refine zn_ni (own := RX4) (C := RX3) (T := TX3) (N := 8) (ci := 3) (ty := tyX3) (fs := [.null, .null, .null, .null, .int 0, .int 0, .int 0, .int 0]) (y := yX3_init) (cc1 := cX3_init) (nL1 := 1) (rm1 := ({ frames := 1, cells := 4, slots := 28, locals := 12 } : Room)) (mc := 4) (ms := 28) (PW := zp_X3_init) hx hb hml hl.1 hown hts hZ hK hP hD hS hA zl_3 tyX3_ok rfl zd_3 zx_43 zx_44 zw_27 c_X3_init zx_47 zx_46 (Or.inr hZ.2.1) rfl rfl (by decide +kernel) rfl rfl ⟨(Nat.le_of_ble_eq_true rfl), (Nat.le_of_ble_eq_true rfl)⟩ (Nat.le_of_ble_eq_true rfl) (Nat.le_of_ble_eq_true rfl) (Nat.le_of_ble_eq_true rfl) dX4_init_68 dX4_init_71 dX4_init_72 (fun t6 w6 H locs hw6 hP hD hS => ?_)
  have hP : va_P D vwCl ((h0, .inr (4, [.ref t1, .ref t2, .ref t3, .ref t4, .ref t5, .ref q0, .null, .int 0])) :: ((((((w1 ++ w2) ++ w3) ++ w4) ++ w5) ++ [(q0, .inl (cA 5, 4, .inr (.inr (.inr (.inr (fun _ => none))))))]) ++ w6)) H := hP
  have hD : va_D A ((h0, .inr (4, [.ref t1, .ref t2, .ref t3, .ref t4, .ref t5, .ref q0, .null, .int 0])) :: ((((((w1 ++ w2) ++ w3) ++ w4) ++ w5) ++ [(q0, .inl (cA 5, 4, .inr (.inr (.inr (.inr (fun _ => none))))))]) ++ w6)) := hD
  refine va_putF (D := D) (ci := 4) (v := .ref t6) (ty := .object "LongestWed$Town") (C := RX4) (T := TX4) (N := 8) hx hb hts zl_4 tyX4 tyX4_ok nmX4 hown hK hP hD hS 0 rfl rfl 6 (by decide) (hts _ zw_151) (fun _ h9 => h9) rfl hin rfl (by decide +kernel) rfl rfl (Nat.le_of_ble_eq_true rfl) dX4_init_75 (fun H locs hP hD hS => ?_)
  have hP : va_P D vwCl ((h0, .inr (4, [.ref t1, .ref t2, .ref t3, .ref t4, .ref t5, .ref q0, .ref t6, .int 0])) :: ((((((w1 ++ w2) ++ w3) ++ w4) ++ w5) ++ [(q0, .inl (cA 5, 4, .inr (.inr (.inr (.inr (fun _ => none))))))]) ++ w6)) H := hP
  have hD : va_D A ((h0, .inr (4, [.ref t1, .ref t2, .ref t3, .ref t4, .ref t5, .ref q0, .ref t6, .int 0])) :: ((((((w1 ++ w2) ++ w3) ++ w4) ++ w5) ++ [(q0, .inl (cA 5, 4, .inr (.inr (.inr (.inr (fun _ => none))))))]) ++ w6)) := hD
  refine lv_aload_n hx hb dX4_init_78 rfl (lv_at hl 0 rfl) ?_
  refine lv_iconst (v := 0) hx hb dX4_init_79 (by decide) ?_
  refine va_put (D := D) (ci := 4) (v := .int 0) (ty := .boolean) (C := RX4) (T := TX4) (N := 8) hx hb hts zl_4 tyX4 tyX4_ok nmX4 hown hK hP hD hS 0 rfl rfl 7 (by decide) (hts _ zw_152) (fun _ h9 => h9) rfl (by decide +kernel) rfl rfl (Nat.le_of_ble_eq_true rfl) dX4_init_80 (fun H locs hP hD hS => ?_)
  have hP : va_P D vwCl ((h0, .inr (4, [.ref t1, .ref t2, .ref t3, .ref t4, .ref t5, .ref q0, .ref t6, .int 0])) :: ((((((w1 ++ w2) ++ w3) ++ w4) ++ w5) ++ [(q0, .inl (cA 5, 4, .inr (.inr (.inr (.inr (fun _ => none))))))]) ++ w6)) H := hP
  have hD : va_D A ((h0, .inr (4, [.ref t1, .ref t2, .ref t3, .ref t4, .ref t5, .ref q0, .ref t6, .int 0])) :: ((((((w1 ++ w2) ++ w3) ++ w4) ++ w5) ++ [(q0, .inl (cA 5, 4, .inr (.inr (.inr (.inr (fun _ => none))))))]) ++ w6)) := hD
  have e6 : (h0, .inr (4, [.ref t1, .ref t2, .ref t3, .ref t4, .ref t5, .ref q0, .ref t6, .int 0])) :: ((((((w1 ++ w2) ++ w3) ++ w4) ++ w5) ++ [(q0, .inl (cA 5, 4, .inr (.inr (.inr (.inr (fun _ => none))))))]) ++ w6) = (h0, .inr (4, [.ref t1, .ref t2, .ref t3, .ref t4, .ref t5, .ref q0, .ref t6, .int 0])) :: (((((w1 ++ w2) ++ w3) ++ w4) ++ w5) ++ (q0, .inl (cA 5, 4, .inr (.inr (.inr (.inr (fun _ => none)))))) :: w6) := by simp
  rw [e6] at hP hD
  refine lv_iconst (v := 0) hx hb dX4_init_83 (by decide) ?_
  refine lv_istore_n (lv' := [(1, .int 0), (0, .ref h0)]) hx hb dX4_init_84 rfl hl (by decide) rfl (fun ls hl => ?_)
  refine lv_iload_n hx hb dX4_init_85 rfl (lv_at hl 0 rfl) ?_
  refine lv_iconst (v := 4) hx hb dX4_init_86 (by decide) ?_
  refine lv_icmp_ge (tgt := 109) hx hb dX4_init_87 (by decide) (fun hc => absurd hc (by decide)) (fun _ => ?_)
  refine lv_aload_n hx hb dX4_init_90 rfl (lv_at hl 1 rfl) ?_
  refine va_get (D := D) (ci := 4) (v := .ref q0) (C := RX4) (T := TX4) (N := 8) hx hb hts zl_4 hown hK hP 0 rfl rfl 5 (by decide) (hts _ zw_150) (fun _ h9 => h9) rfl dX4_init_91 ?_
  refine lv_iload_n hx hb dX4_init_94 rfl (lv_at hl 0 rfl) ?_
  refine zn_ni (own := RX4) (C := RX1) (T := TX1) (N := 3) (ci := 1) (ty := tyX1) (fs := [.null, .int 0, .int 0]) (y := yX1_init) (cc1 := cX1_init) (nL1 := 1) (rm1 := ({ frames := 1, cells := 1, slots := 24, locals := 12 } : Room)) (mc := 1) (ms := 24) (PW := zp_X1_init) hx hb hml hl.1 hown hts hZ hK hP hD hS hA zl_1 tyX1_ok rfl zd_1 zx_124 zx_126 zw_30 c_X1_init zx_129 zx_128 (Or.inr hZ.2.2.2.1) rfl rfl (by decide +kernel) rfl rfl ⟨(Nat.le_of_ble_eq_true rfl), (Nat.le_of_ble_eq_true rfl)⟩ (Nat.le_of_ble_eq_true rfl) (Nat.le_of_ble_eq_true rfl) (Nat.le_of_ble_eq_true rfl) dX4_init_95 dX4_init_98 dX4_init_99 (fun b0 s0 H locs hs0 hP hD hS => ?_)
  have es0 : ((h0, .inr (4, [.ref t1, .ref t2, .ref t3, .ref t4, .ref t5, .ref q0, .ref t6, .int 0])) :: (((((w1 ++ w2) ++ w3) ++ w4) ++ w5) ++ (q0, .inl (cA 5, 4, .inr (.inr (.inr (.inr (fun _ => none)))))) :: w6)) ++ s0 = (h0, .inr (4, [.ref t1, .ref t2, .ref t3, .ref t4, .ref t5, .ref q0, .ref t6, .int 0])) :: (((((w1 ++ w2) ++ w3) ++ w4) ++ w5) ++ (q0, .inl (cA 5, 4, .inr (.inr (.inr (.inr (fun _ => none)))))) :: (w6 ++ s0)) := by simp
  rw [es0] at hP hD
  obtain ⟨vs0, tl0, ew0⟩ := zp_X1_hd hs0
  refine va_astq (D := D) (tys := zn_ty cA) (r := (RX1, TX1, 3)) (vs := vs0) (i := 0) hx hb hK hP hD hS (((((w1 ++ w2) ++ w3) ++ w4) ++ w5).length + 1) 4 (((((w1 ++ w2) ++ w3) ++ w4) ++ w5).length + 1 + (w6.length + 1)) 1 zn_get1 rfl (by rw [ew0]; exact zn_at1) rfl (by unfold vp_in; decide) dX4_init_102 (fun H locs hP hD hS => ?_)
  rw [zn_set1] at hP hD
  refine lv_iinc (v := 1) (lv' := [(1, .int 1), (0, .ref h0)]) hx hb dX4_init_103 hl (k := 0) rfl (by decide) (by decide) rfl (fun ls hl => ?_)
  refine lv_goto (tgt := 85) hx hb dX4_init_106 (by decide) ?_
  refine lv_iload_n hx hb dX4_init_85 rfl (lv_at hl 0 rfl) ?_
  refine lv_iconst (v := 4) hx hb dX4_init_86 (by decide) ?_
  refine lv_icmp_ge (tgt := 109) hx hb dX4_init_87 (by decide) (fun hc => absurd hc (by decide)) (fun _ => ?_)
  refine lv_aload_n hx hb dX4_init_90 rfl (lv_at hl 1 rfl) ?_
  refine va_get (D := D) (ci := 4) (v := .ref q0) (C := RX4) (T := TX4) (N := 8) hx hb hts zl_4 hown hK hP 0 rfl rfl 5 (by decide) (hts _ zw_150) (fun _ h9 => h9) rfl dX4_init_91 ?_
  refine lv_iload_n hx hb dX4_init_94 rfl (lv_at hl 0 rfl) ?_
  refine zn_ni (own := RX4) (C := RX1) (T := TX1) (N := 3) (ci := 1) (ty := tyX1) (fs := [.null, .int 0, .int 0]) (y := yX1_init) (cc1 := cX1_init) (nL1 := 1) (rm1 := ({ frames := 1, cells := 1, slots := 24, locals := 12 } : Room)) (mc := 1) (ms := 24) (PW := zp_X1_init) hx hb hml hl.1 hown hts hZ hK hP hD hS hA zl_1 tyX1_ok rfl zd_1 zx_124 zx_126 zw_30 c_X1_init zx_129 zx_128 (Or.inr hZ.2.2.2.1) rfl rfl (by decide +kernel) rfl rfl ⟨(Nat.le_of_ble_eq_true rfl), (Nat.le_of_ble_eq_true rfl)⟩ (Nat.le_of_ble_eq_true rfl) (Nat.le_of_ble_eq_true rfl) (Nat.le_of_ble_eq_true rfl) dX4_init_95 dX4_init_98 dX4_init_99 (fun b1 s1 H locs hs1 hP hD hS => ?_)
  have es1 : ((h0, .inr (4, [.ref t1, .ref t2, .ref t3, .ref t4, .ref t5, .ref q0, .ref t6, .int 0])) :: (((((w1 ++ w2) ++ w3) ++ w4) ++ w5) ++ (q0, .inl (cA 5, 4, .inr (.inr (.inr (.inr (va_up (fun _ => none) (Int32.toNatClampNeg 0) (some b0))))))) :: (w6 ++ s0))) ++ s1 = (h0, .inr (4, [.ref t1, .ref t2, .ref t3, .ref t4, .ref t5, .ref q0, .ref t6, .int 0])) :: (((((w1 ++ w2) ++ w3) ++ w4) ++ w5) ++ (q0, .inl (cA 5, 4, .inr (.inr (.inr (.inr (va_up (fun _ => none) (Int32.toNatClampNeg 0) (some b0))))))) :: ((w6 ++ s0) ++ s1)) := by simp
  rw [es1] at hP hD
  obtain ⟨vs1, tl1, ew1⟩ := zp_X1_hd hs1
  refine va_astq (D := D) (tys := zn_ty cA) (r := (RX1, TX1, 3)) (vs := vs1) (i := 1) hx hb hK hP hD hS (((((w1 ++ w2) ++ w3) ++ w4) ++ w5).length + 1) 4 (((((w1 ++ w2) ++ w3) ++ w4) ++ w5).length + 1 + ((w6 ++ s0).length + 1)) 1 zn_get1 rfl (by rw [ew1]; exact zn_at1) rfl (by unfold vp_in; decide) dX4_init_102 (fun H locs hP hD hS => ?_)
  rw [zn_set1] at hP hD
  refine lv_iinc (v := 2) (lv' := [(1, .int 2), (0, .ref h0)]) hx hb dX4_init_103 hl (k := 0) rfl (by decide) (by decide) rfl (fun ls hl => ?_)
  refine lv_goto (tgt := 85) hx hb dX4_init_106 (by decide) ?_
  refine lv_iload_n hx hb dX4_init_85 rfl (lv_at hl 0 rfl) ?_
  refine lv_iconst (v := 4) hx hb dX4_init_86 (by decide) ?_
  refine lv_icmp_ge (tgt := 109) hx hb dX4_init_87 (by decide) (fun hc => absurd hc (by decide)) (fun _ => ?_)
  refine lv_aload_n hx hb dX4_init_90 rfl (lv_at hl 1 rfl) ?_
  refine va_get (D := D) (ci := 4) (v := .ref q0) (C := RX4) (T := TX4) (N := 8) hx hb hts zl_4 hown hK hP 0 rfl rfl 5 (by decide) (hts _ zw_150) (fun _ h9 => h9) rfl dX4_init_91 ?_
  refine lv_iload_n hx hb dX4_init_94 rfl (lv_at hl 0 rfl) ?_
  refine zn_ni (own := RX4) (C := RX1) (T := TX1) (N := 3) (ci := 1) (ty := tyX1) (fs := [.null, .int 0, .int 0]) (y := yX1_init) (cc1 := cX1_init) (nL1 := 1) (rm1 := ({ frames := 1, cells := 1, slots := 24, locals := 12 } : Room)) (mc := 1) (ms := 24) (PW := zp_X1_init) hx hb hml hl.1 hown hts hZ hK hP hD hS hA zl_1 tyX1_ok rfl zd_1 zx_124 zx_126 zw_30 c_X1_init zx_129 zx_128 (Or.inr hZ.2.2.2.1) rfl rfl (by decide +kernel) rfl rfl ⟨(Nat.le_of_ble_eq_true rfl), (Nat.le_of_ble_eq_true rfl)⟩ (Nat.le_of_ble_eq_true rfl) (Nat.le_of_ble_eq_true rfl) (Nat.le_of_ble_eq_true rfl) dX4_init_95 dX4_init_98 dX4_init_99 (fun b2 s2 H locs hs2 hP hD hS => ?_)
  have es2 : ((h0, .inr (4, [.ref t1, .ref t2, .ref t3, .ref t4, .ref t5, .ref q0, .ref t6, .int 0])) :: (((((w1 ++ w2) ++ w3) ++ w4) ++ w5) ++ (q0, .inl (cA 5, 4, .inr (.inr (.inr (.inr (va_up (va_up (fun _ => none) (Int32.toNatClampNeg 0) (some b0)) (Int32.toNatClampNeg 1) (some b1))))))) :: ((w6 ++ s0) ++ s1))) ++ s2 = (h0, .inr (4, [.ref t1, .ref t2, .ref t3, .ref t4, .ref t5, .ref q0, .ref t6, .int 0])) :: (((((w1 ++ w2) ++ w3) ++ w4) ++ w5) ++ (q0, .inl (cA 5, 4, .inr (.inr (.inr (.inr (va_up (va_up (fun _ => none) (Int32.toNatClampNeg 0) (some b0)) (Int32.toNatClampNeg 1) (some b1))))))) :: (((w6 ++ s0) ++ s1) ++ s2)) := by simp
  rw [es2] at hP hD
  obtain ⟨vs2, tl2, ew2⟩ := zp_X1_hd hs2
  refine va_astq (D := D) (tys := zn_ty cA) (r := (RX1, TX1, 3)) (vs := vs2) (i := 2) hx hb hK hP hD hS (((((w1 ++ w2) ++ w3) ++ w4) ++ w5).length + 1) 4 (((((w1 ++ w2) ++ w3) ++ w4) ++ w5).length + 1 + (((w6 ++ s0) ++ s1).length + 1)) 1 zn_get1 rfl (by rw [ew2]; exact zn_at1) rfl (by unfold vp_in; decide) dX4_init_102 (fun H locs hP hD hS => ?_)
  rw [zn_set1] at hP hD
  refine lv_iinc (v := 3) (lv' := [(1, .int 3), (0, .ref h0)]) hx hb dX4_init_103 hl (k := 0) rfl (by decide) (by decide) rfl (fun ls hl => ?_)
  refine lv_goto (tgt := 85) hx hb dX4_init_106 (by decide) ?_
  refine lv_iload_n hx hb dX4_init_85 rfl (lv_at hl 0 rfl) ?_
  refine lv_iconst (v := 4) hx hb dX4_init_86 (by decide) ?_
  refine lv_icmp_ge (tgt := 109) hx hb dX4_init_87 (by decide) (fun hc => absurd hc (by decide)) (fun _ => ?_)
  refine lv_aload_n hx hb dX4_init_90 rfl (lv_at hl 1 rfl) ?_
  refine va_get (D := D) (ci := 4) (v := .ref q0) (C := RX4) (T := TX4) (N := 8) hx hb hts zl_4 hown hK hP 0 rfl rfl 5 (by decide) (hts _ zw_150) (fun _ h9 => h9) rfl dX4_init_91 ?_
  refine lv_iload_n hx hb dX4_init_94 rfl (lv_at hl 0 rfl) ?_
  refine zn_ni (own := RX4) (C := RX1) (T := TX1) (N := 3) (ci := 1) (ty := tyX1) (fs := [.null, .int 0, .int 0]) (y := yX1_init) (cc1 := cX1_init) (nL1 := 1) (rm1 := ({ frames := 1, cells := 1, slots := 24, locals := 12 } : Room)) (mc := 1) (ms := 24) (PW := zp_X1_init) hx hb hml hl.1 hown hts hZ hK hP hD hS hA zl_1 tyX1_ok rfl zd_1 zx_124 zx_126 zw_30 c_X1_init zx_129 zx_128 (Or.inr hZ.2.2.2.1) rfl rfl (by decide +kernel) rfl rfl ⟨(Nat.le_of_ble_eq_true rfl), (Nat.le_of_ble_eq_true rfl)⟩ (Nat.le_of_ble_eq_true rfl) (Nat.le_of_ble_eq_true rfl) (Nat.le_of_ble_eq_true rfl) dX4_init_95 dX4_init_98 dX4_init_99 (fun b3 s3 H locs hs3 hP hD hS => ?_)
  have es3 : ((h0, .inr (4, [.ref t1, .ref t2, .ref t3, .ref t4, .ref t5, .ref q0, .ref t6, .int 0])) :: (((((w1 ++ w2) ++ w3) ++ w4) ++ w5) ++ (q0, .inl (cA 5, 4, .inr (.inr (.inr (.inr (va_up (va_up (va_up (fun _ => none) (Int32.toNatClampNeg 0) (some b0)) (Int32.toNatClampNeg 1) (some b1)) (Int32.toNatClampNeg 2) (some b2))))))) :: (((w6 ++ s0) ++ s1) ++ s2))) ++ s3 = (h0, .inr (4, [.ref t1, .ref t2, .ref t3, .ref t4, .ref t5, .ref q0, .ref t6, .int 0])) :: (((((w1 ++ w2) ++ w3) ++ w4) ++ w5) ++ (q0, .inl (cA 5, 4, .inr (.inr (.inr (.inr (va_up (va_up (va_up (fun _ => none) (Int32.toNatClampNeg 0) (some b0)) (Int32.toNatClampNeg 1) (some b1)) (Int32.toNatClampNeg 2) (some b2))))))) :: ((((w6 ++ s0) ++ s1) ++ s2) ++ s3)) := by simp
  rw [es3] at hP hD
  obtain ⟨vs3, tl3, ew3⟩ := zp_X1_hd hs3
  refine va_astq (D := D) (tys := zn_ty cA) (r := (RX1, TX1, 3)) (vs := vs3) (i := 3) hx hb hK hP hD hS (((((w1 ++ w2) ++ w3) ++ w4) ++ w5).length + 1) 4 (((((w1 ++ w2) ++ w3) ++ w4) ++ w5).length + 1 + ((((w6 ++ s0) ++ s1) ++ s2).length + 1)) 1 zn_get1 rfl (by rw [ew3]; exact zn_at1) rfl (by unfold vp_in; decide) dX4_init_102 (fun H locs hP hD hS => ?_)
  rw [zn_set1] at hP hD
  refine lv_iinc (v := 4) (lv' := [(1, .int 4), (0, .ref h0)]) hx hb dX4_init_103 hl (k := 0) rfl (by decide) (by decide) rfl (fun ls hl => ?_)
  refine lv_goto (tgt := 85) hx hb dX4_init_106 (by decide) ?_
  refine lv_iload_n hx hb dX4_init_85 rfl (lv_at hl 0 rfl) ?_
  refine lv_iconst (v := 4) hx hb dX4_init_86 (by decide) ?_
  refine lv_icmp_ge (tgt := 109) hx hb dX4_init_87 (by decide) (fun _ => ?_) (fun hc => absurd (by decide) hc)
  have hfg : ∀ i, i < 4 → (va_up (va_up (va_up (va_up (fun _ => none) (Int32.toNatClampNeg 0) (some b0)) (Int32.toNatClampNeg 1) (some b1)) (Int32.toNatClampNeg 2) (some b2)) (Int32.toNatClampNeg 3) (some b3)) i = (fun i => [b0, b1, b2, b3][i]?) i
    | 0, _ => rfl
    | 1, _ => rfl
    | 2, _ => rfl
    | 3, _ => rfl
    | n + 4, h => absurd h (by omega)
  have hP := zn_swapP (l1 := (h0, .inr (4, [.ref t1, .ref t2, .ref t3, .ref t4, .ref t5, .ref q0, .ref t6, .int 0])) :: ((((w1 ++ w2) ++ w3) ++ w4) ++ w5)) (g := (fun i => [b0, b1, b2, b3][i]?)) hP hfg
  have hD := zn_swapD (l1 := (h0, .inr (4, [.ref t1, .ref t2, .ref t3, .ref t4, .ref t5, .ref q0, .ref t6, .int 0])) :: ((((w1 ++ w2) ++ w3) ++ w4) ++ w5)) (y := .inl (cA 5, 4, .inr (.inr (.inr (.inr (fun i => [b0, b1, b2, b3][i]?)))))) hD
  refine W.widen (k := 110) (n := 902) (Nat.le_of_ble_eq_true rfl) (Nat.le_of_ble_eq_true rfl) ?_
  exact W.vret hx hb hr (fun t ht hW => ⟨⟨_, rfl, ⟨t1, w1, hw1, t2, w2, hw2, t3, w3, hw3, t4, w4, hw4, t5, w5, hw5, t6, w6, hw6, q0, b0, s0, hs0, b1, s1, hs1, b2, s2, hs2, b3, s3, hs3, rfl⟩, by rw [ht]; exact hP, va_K.moved hW.alike hK, hD⟩, hS.F ht⟩) hS.2.2 dX4_init_109
