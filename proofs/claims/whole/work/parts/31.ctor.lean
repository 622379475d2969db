theorem zx_40 : Cond.methodLink RX4 1 objectInit ∈ zk_T := zk_mem 40 (by decide +kernel) (by decide +kernel)
theorem zx_41 : Cond.instanceMethod objectInit ∈ zk_T := zk_mem 41 (by decide +kernel) (by decide +kernel)
theorem zx_42 : Cond.code objectInit ⟨#[0xb1]⟩ 1 none ∈ zk_T := zk_mem 42 (by decide +kernel) (by decide +kernel)
theorem zx_43 : Cond.classLink RX4 7 RX3 ∈ zk_T := zk_mem 43 (by decide +kernel) (by decide +kernel)
theorem zx_44 : Cond.instantiable RX3 8 ∈ zk_T := zk_mem 44 (by decide +kernel) (by decide +kernel)
theorem zx_46 : Cond.instanceMethod yX3_init ∈ zk_T := zk_mem 46 (by decide +kernel) (by decide +kernel)
theorem zx_47 : Cond.code yX3_init cX3_init 1 none ∈ zk_T := zk_mem 47 (by decide +kernel) (by decide +kernel)
theorem zx_48 : Cond.methodLink RX3 3 objectInit ∈ zk_T := zk_mem 48 (by decide +kernel) (by decide +kernel)
theorem zx_82 : Cond.arrayClass .int ∈ zk_T := zk_mem 82 (by decide +kernel) (by decide +kernel)
theorem zx_83 : Cond.classLink RX4 16 RX0 ∈ zk_T := zk_mem 83 (by decide +kernel) (by decide +kernel)
theorem zx_84 : Cond.instantiable RX0 3 ∈ zk_T := zk_mem 84 (by decide +kernel) (by decide +kernel)
theorem zx_85 : Cond.methodLink RX4 18 yX0_init ∈ zk_T := zk_mem 85 (by decide +kernel) (by decide +kernel)
theorem zx_86 : Cond.instanceMethod yX0_init ∈ zk_T := zk_mem 86 (by decide +kernel) (by decide +kernel)
theorem zx_87 : Cond.code yX0_init cX0_init 2 none ∈ zk_T := zk_mem 87 (by decide +kernel) (by decide +kernel)
theorem zx_88 : Cond.methodLink RX0 3 objectInit ∈ zk_T := zk_mem 88 (by decide +kernel) (by decide +kernel)
theorem zx_89 : Cond.classLink RX0 9 RX3 ∈ zk_T := zk_mem 89 (by decide +kernel) (by decide +kernel)
theorem zx_103 : Cond.classLink RX4 29 RX2 ∈ zk_T := zk_mem 103 (by decide +kernel) (by decide +kernel)
theorem zx_104 : Cond.instantiable RX2 4 ∈ zk_T := zk_mem 104 (by decide +kernel) (by decide +kernel)
theorem zx_106 : Cond.instanceMethod yX2_init ∈ zk_T := zk_mem 106 (by decide +kernel) (by decide +kernel)
theorem zx_107 : Cond.code yX2_init cX2_init 1 none ∈ zk_T := zk_mem 107 (by decide +kernel) (by decide +kernel)
theorem zx_108 : Cond.methodLink RX2 3 objectInit ∈ zk_T := zk_mem 108 (by decide +kernel) (by decide +kernel)
theorem zx_124 : Cond.classLink RX4 36 RX1 ∈ zk_T := zk_mem 124 (by decide +kernel) (by decide +kernel)
theorem zx_126 : Cond.instantiable RX1 3 ∈ zk_T := zk_mem 126 (by decide +kernel) (by decide +kernel)
theorem zx_128 : Cond.instanceMethod yX1_init ∈ zk_T := zk_mem 128 (by decide +kernel) (by decide +kernel)
theorem zx_129 : Cond.code yX1_init cX1_init 1 none ∈ zk_T := zk_mem 129 (by decide +kernel) (by decide +kernel)
theorem zx_130 : Cond.methodLink RX1 3 objectInit ∈ zk_T := zk_mem 130 (by decide +kernel) (by decide +kernel)
theorem zx_144 : Cond.arrayClass .long ∈ zk_T := zk_mem 144 (by decide +kernel) (by decide +kernel)
theorem zx_542 : Cond.methodLink RX5 1 objectInit ∈ zk_T := zk_mem 542 (by decide +kernel) (by decide +kernel)
theorem zx_598 : Cond.arrayClass .byte ∈ zk_T := zk_mem 598 (by decide +kernel) (by decide +kernel)
def zp_X3_init (cA : Nat → ClassId) (h0 : Nat) (w : va_W) : Prop := ∃ q1 q2 q3 q4 : Nat, w = [(h0, .inr (3, [.ref q1, .ref q2, .ref q3, .ref q4, .int 0, .int 0, .int 0, .int 1])), (q1, .inl (cA 1, 7, .inl (fun _ => 0))), (q2, .inl (cA 1, 7, .inl (fun _ => 0))), (q3, .inl (cA 1, 7, .inl (fun _ => 0))), (q4, .inl (cA 1, 7, .inl (fun _ => 0)))]
set_option maxRecDepth 100000 in
set_option maxHeartbeats 4000000 in
theorem c_X3_init : zn_C yX3_init cX3_init 1 ({ frames := 1, cells := 4, slots := 28, locals := 12 } : Room) 4 28 3 [.null, .null, .null, .null, .int 0, .int 0, .int 0, .int 0] (zp_X3_init) := by
  intro l D cA h0 sz
  refine Met.ofW (cc := cX3_init) (maxL := 1) (ret := none) (by decide) rfl ?_
  intro p e s m args below meth c s₁ B hml hv
  obtain ⟨rfl, hsz, hP, hK, hD0, hZ⟩ := hv
  have hx := B.exec
  have hb := B.bytes
  have hr := B.returns
  have hts0 := atoms_spec (ws := .code yX3_init cX3_init 1 none :: zk_T) B.pre
  have hts : ∀ w ∈ zk_T, w.before _ s = true := fun w hw => hts0 w (List.mem_cons_of_mem _ hw)
  have hown : s.vm.findClass RX3 = some m.cls := findClass_of_methodNamed B.named
  have hlocks := B.notSynchronized
  have hin : meth.name = "<init>" := (name_of_methodNamed B.named B.method).1
  subst hsz
  have hD := hD0.self (sz := s.heap.size)
  generalize hAe : va_A [(h0, .inr (3, [.null, .null, .null, .null, .int 0, .int 0, .int 0, .int 0]))] s.heap.size = A at hD ⊢
  have hA : ∀ q : Nat, s.heap.size ≤ q → A q := fun q h => by rw [← hAe]; exact Or.inr h
  have hS : va_S A s.heap s.heap [] := va_S.rf
  have hl := lv_entry ([.ref h0]) (n := 1) (Nat.le_of_ble_eq_true rfl)
  rw [lg_entry_eq]
  generalize (lg_sl ([.ref h0]) ++ List.replicate (1 - (lg_sl ([.ref h0])).length) Slot.unset).toArray = ls at hl ⊢
  have hl : lv_has ls 1 [(0, .ref h0)] := hl
  refine lv_aload_n hx hb dX3_init_0 rfl (lv_at hl 0 rfl) ?_
  refine W.objInit hx hb hown (hts _ zx_48) (hts _ zx_41) (hts _ zx_42) rfl (by rw [hml]; exact hl.1) rfl dX3_init_1 (Nat.le_of_ble_eq_true rfl) (Nat.le_of_ble_eq_true rfl) ?_
  refine W.eq (g2 := F0 m 4 ls []) rfl ?_
  refine lv_aload_n hx hb dX3_init_4 rfl (lv_at hl 0 rfl) ?_
  refine lv_bipush (v := (7)) hx hb dX3_init_5 (by decide) ?_
  refine zn_int (N' := 7) hx hb (hts _ zx_82) hK hP hD hS hA (by decide) (by decide) (by decide) (Nat.le_of_ble_eq_true rfl) (Nat.le_of_ble_eq_true rfl) dX3_init_7 (fun q1 H hP hD hS => ?_)
  have hP : va_P D vwCl [(h0, .inr (3, [.null, .null, .null, .null, .int 0, .int 0, .int 0, .int 0])), (q1, .inl (cA 1, 7, .inl (fun _ => 0)))] H := hP
  have hD : va_D A [(h0, .inr (3, [.null, .null, .null, .null, .int 0, .int 0, .int 0, .int 0])), (q1, .inl (cA 1, 7, .inl (fun _ => 0)))] := hD
  refine va_putF (D := D) (ci := 3) (v := .ref q1) (ty := .array .int) (C := RX3) (T := TX3) (N := 8) hx hb hts zl_3 tyX3 tyX3_ok nmX3 hown hK hP hD hS 0 rfl rfl 0 (by decide) (hts _ zw_49) (fun _ h9 => h9) rfl hin rfl (by decide +kernel) rfl rfl (Nat.le_of_ble_eq_true rfl) dX3_init_9 (fun H locs hP hD hS => ?_)
  have hP : va_P D vwCl [(h0, .inr (3, [.ref q1, .null, .null, .null, .int 0, .int 0, .int 0, .int 0])), (q1, .inl (cA 1, 7, .inl (fun _ => 0)))] H := hP
  have hD : va_D A [(h0, .inr (3, [.ref q1, .null, .null, .null, .int 0, .int 0, .int 0, .int 0])), (q1, .inl (cA 1, 7, .inl (fun _ => 0)))] := hD
  refine lv_aload_n hx hb dX3_init_12 rfl (lv_at hl 0 rfl) ?_
  refine lv_bipush (v := (7)) hx hb dX3_init_13 (by decide) ?_
  refine zn_int (N' := 7) hx hb (hts _ zx_82) hK hP hD hS hA (by decide) (by decide) (by decide) (Nat.le_of_ble_eq_true rfl) (Nat.le_of_ble_eq_true rfl) dX3_init_15 (fun q2 H hP hD hS => ?_)
  have hP : va_P D vwCl [(h0, .inr (3, [.ref q1, .null, .null, .null, .int 0, .int 0, .int 0, .int 0])), (q1, .inl (cA 1, 7, .inl (fun _ => 0))), (q2, .inl (cA 1, 7, .inl (fun _ => 0)))] H := hP
  have hD : va_D A [(h0, .inr (3, [.ref q1, .null, .null, .null, .int 0, .int 0, .int 0, .int 0])), (q1, .inl (cA 1, 7, .inl (fun _ => 0))), (q2, .inl (cA 1, 7, .inl (fun _ => 0)))] := hD
  refine va_putF (D := D) (ci := 3) (v := .ref q2) (ty := .array .int) (C := RX3) (T := TX3) (N := 8) hx hb hts zl_3 tyX3 tyX3_ok nmX3 hown hK hP hD hS 0 rfl rfl 1 (by decide) (hts _ zw_51) (fun _ h9 => h9) rfl hin rfl (by decide +kernel) rfl rfl (Nat.le_of_ble_eq_true rfl) dX3_init_17 (fun H locs hP hD hS => ?_)
  have hP : va_P D vwCl [(h0, .inr (3, [.ref q1, .ref q2, .null, .null, .int 0, .int 0, .int 0, .int 0])), (q1, .inl (cA 1, 7, .inl (fun _ => 0))), (q2, .inl (cA 1, 7, .inl (fun _ => 0)))] H := hP
  have hD : va_D A [(h0, .inr (3, [.ref q1, .ref q2, .null, .null, .int 0, .int 0, .int 0, .int 0])), (q1, .inl (cA 1, 7, .inl (fun _ => 0))), (q2, .inl (cA 1, 7, .inl (fun _ => 0)))] := hD
  refine lv_aload_n hx hb dX3_init_20 rfl (lv_at hl 0 rfl) ?_
  refine lv_bipush (v := (7)) hx hb dX3_init_21 (by decide) ?_
  refine zn_int (N' := 7) hx hb (hts _ zx_82) hK hP hD hS hA (by decide) (by decide) (by decide) (Nat.le_of_ble_eq_true rfl) (Nat.le_of_ble_eq_true rfl) dX3_init_23 (fun q3 H hP hD hS => ?_)
  have hP : va_P D vwCl [(h0, .inr (3, [.ref q1, .ref q2, .null, .null, .int 0, .int 0, .int 0, .int 0])), (q1, .inl (cA 1, 7, .inl (fun _ => 0))), (q2, .inl (cA 1, 7, .inl (fun _ => 0))), (q3, .inl (cA 1, 7, .inl (fun _ => 0)))] H := hP
  have hD : va_D A [(h0, .inr (3, [.ref q1, .ref q2, .null, .null, .int 0, .int 0, .int 0, .int 0])), (q1, .inl (cA 1, 7, .inl (fun _ => 0))), (q2, .inl (cA 1, 7, .inl (fun _ => 0))), (q3, .inl (cA 1, 7, .inl (fun _ => 0)))] := hD
  refine va_putF (D := D) (ci := 3) (v := .ref q3) (ty := .array .int) (C := RX3) (T := TX3) (N := 8) hx hb hts zl_3 tyX3 tyX3_ok nmX3 hown hK hP hD hS 0 rfl rfl 2 (by decide) (hts _ zw_53) (fun _ h9 => h9) rfl hin rfl (by decide +kernel) rfl rfl (Nat.le_of_ble_eq_true rfl) dX3_init_25 (fun H locs hP hD hS => ?_)
  have hP : va_P D vwCl [(h0, .inr (3, [.ref q1, .ref q2, .ref q3, .null, .int 0, .int 0, .int 0, .int 0])), (q1, .inl (cA 1, 7, .inl (fun _ => 0))), (q2, .inl (cA 1, 7, .inl (fun _ => 0))), (q3, .inl (cA 1, 7, .inl (fun _ => 0)))] H := hP
  have hD : va_D A [(h0, .inr (3, [.ref q1, .ref q2, .ref q3, .null, .int 0, .int 0, .int 0, .int 0])), (q1, .inl (cA 1, 7, .inl (fun _ => 0))), (q2, .inl (cA 1, 7, .inl (fun _ => 0))), (q3, .inl (cA 1, 7, .inl (fun _ => 0)))] := hD
  refine lv_aload_n hx hb dX3_init_28 rfl (lv_at hl 0 rfl) ?_
  refine lv_bipush (v := (7)) hx hb dX3_init_29 (by decide) ?_
  refine zn_int (N' := 7) hx hb (hts _ zx_82) hK hP hD hS hA (by decide) (by decide) (by decide) (Nat.le_of_ble_eq_true rfl) (Nat.le_of_ble_eq_true rfl) dX3_init_31 (fun q4 H hP hD hS => ?_)
  have hP : va_P D vwCl [(h0, .inr (3, [.ref q1, .ref q2, .ref q3, .null, .int 0, .int 0, .int 0, .int 0])), (q1, .inl (cA 1, 7, .inl (fun _ => 0))), (q2, .inl (cA 1, 7, .inl (fun _ => 0))), (q3, .inl (cA 1, 7, .inl (fun _ => 0))), (q4, .inl (cA 1, 7, .inl (fun _ => 0)))] H := hP
  have hD : va_D A [(h0, .inr (3, [.ref q1, .ref q2, .ref q3, .null, .int 0, .int 0, .int 0, .int 0])), (q1, .inl (cA 1, 7, .inl (fun _ => 0))), (q2, .inl (cA 1, 7, .inl (fun _ => 0))), (q3, .inl (cA 1, 7, .inl (fun _ => 0))), (q4, .inl (cA 1, 7, .inl (fun _ => 0)))] := hD
  refine va_putF (D := D) (ci := 3) (v := .ref q4) (ty := .array .int) (C := RX3) (T := TX3) (N := 8) hx hb hts zl_3 tyX3 tyX3_ok nmX3 hown hK hP hD hS 0 rfl rfl 3 (by decide) (hts _ zw_55) (fun _ h9 => h9) rfl hin rfl (by decide +kernel) rfl rfl (Nat.le_of_ble_eq_true rfl) dX3_init_33 (fun H locs hP hD hS => ?_)
  have hP : va_P D vwCl [(h0, .inr (3, [.ref q1, .ref q2, .ref q3, .ref q4, .int 0, .int 0, .int 0, .int 0])), (q1, .inl (cA 1, 7, .inl (fun _ => 0))), (q2, .inl (cA 1, 7, .inl (fun _ => 0))), (q3, .inl (cA 1, 7, .inl (fun _ => 0))), (q4, .inl (cA 1, 7, .inl (fun _ => 0)))] H := hP
  have hD : va_D A [(h0, .inr (3, [.ref q1, .ref q2, .ref q3, .ref q4, .int 0, .int 0, .int 0, .int 0])), (q1, .inl (cA 1, 7, .inl (fun _ => 0))), (q2, .inl (cA 1, 7, .inl (fun _ => 0))), (q3, .inl (cA 1, 7, .inl (fun _ => 0))), (q4, .inl (cA 1, 7, .inl (fun _ => 0)))] := hD
  refine lv_aload_n hx hb dX3_init_36 rfl (lv_at hl 0 rfl) ?_
  refine lv_iconst (v := (0)) hx hb dX3_init_37 (by decide) ?_
  refine va_put (D := D) (ci := 3) (v := .int (0)) (ty := .int) (C := RX3) (T := TX3) (N := 8) hx hb hts zl_3 tyX3 tyX3_ok nmX3 hown hK hP hD hS 0 rfl rfl 4 (by decide) (hts _ zw_57) (fun _ h9 => h9) rfl (by decide +kernel) rfl rfl (Nat.le_of_ble_eq_true rfl) dX3_init_38 (fun H locs hP hD hS => ?_)
  have hP : va_P D vwCl [(h0, .inr (3, [.ref q1, .ref q2, .ref q3, .ref q4, .int 0, .int 0, .int 0, .int 0])), (q1, .inl (cA 1, 7, .inl (fun _ => 0))), (q2, .inl (cA 1, 7, .inl (fun _ => 0))), (q3, .inl (cA 1, 7, .inl (fun _ => 0))), (q4, .inl (cA 1, 7, .inl (fun _ => 0)))] H := hP
  have hD : va_D A [(h0, .inr (3, [.ref q1, .ref q2, .ref q3, .ref q4, .int 0, .int 0, .int 0, .int 0])), (q1, .inl (cA 1, 7, .inl (fun _ => 0))), (q2, .inl (cA 1, 7, .inl (fun _ => 0))), (q3, .inl (cA 1, 7, .inl (fun _ => 0))), (q4, .inl (cA 1, 7, .inl (fun _ => 0)))] := hD
  refine lv_aload_n hx hb dX3_init_41 rfl (lv_at hl 0 rfl) ?_
  refine lv_iconst (v := (0)) hx hb dX3_init_42 (by decide) ?_
  refine va_put (D := D) (ci := 3) (v := .int (0)) (ty := .int) (C := RX3) (T := TX3) (N := 8) hx hb hts zl_3 tyX3 tyX3_ok nmX3 hown hK hP hD hS 0 rfl rfl 5 (by decide) (hts _ zw_59) (fun _ h9 => h9) rfl (by decide +kernel) rfl rfl (Nat.le_of_ble_eq_true rfl) dX3_init_43 (fun H locs hP hD hS => ?_)
  have hP : va_P D vwCl [(h0, .inr (3, [.ref q1, .ref q2, .ref q3, .ref q4, .int 0, .int 0, .int 0, .int 0])), (q1, .inl (cA 1, 7, .inl (fun _ => 0))), (q2, .inl (cA 1, 7, .inl (fun _ => 0))), (q3, .inl (cA 1, 7, .inl (fun _ => 0))), (q4, .inl (cA 1, 7, .inl (fun _ => 0)))] H := hP
  have hD : va_D A [(h0, .inr (3, [.ref q1, .ref q2, .ref q3, .ref q4, .int 0, .int 0, .int 0, .int 0])), (q1, .inl (cA 1, 7, .inl (fun _ => 0))), (q2, .inl (cA 1, 7, .inl (fun _ => 0))), (q3, .inl (cA 1, 7, .inl (fun _ => 0))), (q4, .inl (cA 1, 7, .inl (fun _ => 0)))] := hD
  refine lv_aload_n hx hb dX3_init_46 rfl (lv_at hl 0 rfl) ?_
  refine lv_iconst (v := (0)) hx hb dX3_init_47 (by decide) ?_
  refine va_put (D := D) (ci := 3) (v := .int (0)) (ty := .int) (C := RX3) (T := TX3) (N := 8) hx hb hts zl_3 tyX3 tyX3_ok nmX3 hown hK hP hD hS 0 rfl rfl 6 (by decide) (hts _ zw_61) (fun _ h9 => h9) rfl (by decide +kernel) rfl rfl (Nat.le_of_ble_eq_true rfl) dX3_init_48 (fun H locs hP hD hS => ?_)
  have hP : va_P D vwCl [(h0, .inr (3, [.ref q1, .ref q2, .ref q3, .ref q4, .int 0, .int 0, .int 0, .int 0])), (q1, .inl (cA 1, 7, .inl (fun _ => 0))), (q2, .inl (cA 1, 7, .inl (fun _ => 0))), (q3, .inl (cA 1, 7, .inl (fun _ => 0))), (q4, .inl (cA 1, 7, .inl (fun _ => 0)))] H := hP
  have hD : va_D A [(h0, .inr (3, [.ref q1, .ref q2, .ref q3, .ref q4, .int 0, .int 0, .int 0, .int 0])), (q1, .inl (cA 1, 7, .inl (fun _ => 0))), (q2, .inl (cA 1, 7, .inl (fun _ => 0))), (q3, .inl (cA 1, 7, .inl (fun _ => 0))), (q4, .inl (cA 1, 7, .inl (fun _ => 0)))] := hD
  refine lv_aload_n hx hb dX3_init_51 rfl (lv_at hl 0 rfl) ?_
  refine lv_iconst (v := (1)) hx hb dX3_init_52 (by decide) ?_
  refine va_put (D := D) (ci := 3) (v := .int (1)) (ty := .int) (C := RX3) (T := TX3) (N := 8) hx hb hts zl_3 tyX3 tyX3_ok nmX3 hown hK hP hD hS 0 rfl rfl 7 (by decide) (hts _ zw_63) (fun _ h9 => h9) rfl (by decide +kernel) rfl rfl (Nat.le_of_ble_eq_true rfl) dX3_init_53 (fun H locs hP hD hS => ?_)
  have hP : va_P D vwCl [(h0, .inr (3, [.ref q1, .ref q2, .ref q3, .ref q4, .int 0, .int 0, .int 0, .int 1])), (q1, .inl (cA 1, 7, .inl (fun _ => 0))), (q2, .inl (cA 1, 7, .inl (fun _ => 0))), (q3, .inl (cA 1, 7, .inl (fun _ => 0))), (q4, .inl (cA 1, 7, .inl (fun _ => 0)))] H := hP
  have hD : va_D A [(h0, .inr (3, [.ref q1, .ref q2, .ref q3, .ref q4, .int 0, .int 0, .int 0, .int 1])), (q1, .inl (cA 1, 7, .inl (fun _ => 0))), (q2, .inl (cA 1, 7, .inl (fun _ => 0))), (q3, .inl (cA 1, 7, .inl (fun _ => 0))), (q4, .inl (cA 1, 7, .inl (fun _ => 0)))] := hD
  refine W.widen (k := 4) (n := 28) (Nat.le_of_ble_eq_true rfl) (Nat.le_of_ble_eq_true rfl) ?_
  exact W.vret hx hb hr (fun t ht hW => ⟨⟨_, rfl, ⟨q1, q2, q3, q4, rfl⟩, by rw [ht]; exact hP, va_K.moved hW.alike hK, hD⟩, hS.F ht⟩) hS.2.2 dX3_init_56
def zp_X2_init (cA : Nat → ClassId) (h0 : Nat) (w : va_W) : Prop := ∃ q1 : Nat, w = [(h0, .inr (2, [.ref q1, .int 0, .int 0, .int 0])), (q1, .inl (cA 1, 80, .inl (fun _ => 0)))]
set_option maxRecDepth 100000 in
set_option maxHeartbeats 4000000 in
theorem c_X2_init : zn_C yX2_init cX2_init 1 ({ frames := 1, cells := 1, slots := 80, locals := 12 } : Room) 1 80 2 [.null, .int 0, .int 0, .int 0] (zp_X2_init) := by
  intro l D cA h0 sz
  refine Met.ofW (cc := cX2_init) (maxL := 1) (ret := none) (by decide) rfl ?_
  intro p e s m args below meth c s₁ B hml hv
  obtain ⟨rfl, hsz, hP, hK, hD0, hZ⟩ := hv
  have hx := B.exec
  have hb := B.bytes
  have hr := B.returns
  have hts0 := atoms_spec (ws := .code yX2_init cX2_init 1 none :: zk_T) B.pre
  have hts : ∀ w ∈ zk_T, w.before _ s = true := fun w hw => hts0 w (List.mem_cons_of_mem _ hw)
  have hown : s.vm.findClass RX2 = some m.cls := findClass_of_methodNamed B.named
  have hlocks := B.notSynchronized
  have hin : meth.name = "<init>" := (name_of_methodNamed B.named B.method).1
  subst hsz
  have hD := hD0.self (sz := s.heap.size)
  generalize hAe : va_A [(h0, .inr (2, [.null, .int 0, .int 0, .int 0]))] s.heap.size = A at hD ⊢
  have hA : ∀ q : Nat, s.heap.size ≤ q → A q := fun q h => by rw [← hAe]; exact Or.inr h
  have hS : va_S A s.heap s.heap [] := va_S.rf
  have hl := lv_entry ([.ref h0]) (n := 1) (Nat.le_of_ble_eq_true rfl)
  rw [lg_entry_eq]
  generalize (lg_sl ([.ref h0]) ++ List.replicate (1 - (lg_sl ([.ref h0])).length) Slot.unset).toArray = ls at hl ⊢
  have hl : lv_has ls 1 [(0, .ref h0)] := hl
  refine lv_aload_n hx hb dX2_init_0 rfl (lv_at hl 0 rfl) ?_
  refine W.objInit hx hb hown (hts _ zx_108) (hts _ zx_41) (hts _ zx_42) rfl (by rw [hml]; exact hl.1) rfl dX2_init_1 (Nat.le_of_ble_eq_true rfl) (Nat.le_of_ble_eq_true rfl) ?_
  refine W.eq (g2 := F0 m 4 ls []) rfl ?_
  refine lv_aload_n hx hb dX2_init_4 rfl (lv_at hl 0 rfl) ?_
  refine lv_bipush (v := (80)) hx hb dX2_init_5 (by decide) ?_
  refine zn_int (N' := 80) hx hb (hts _ zx_82) hK hP hD hS hA (by decide) (by decide) (by decide) (Nat.le_of_ble_eq_true rfl) (Nat.le_of_ble_eq_true rfl) dX2_init_7 (fun q1 H hP hD hS => ?_)
  have hP : va_P D vwCl [(h0, .inr (2, [.null, .int 0, .int 0, .int 0])), (q1, .inl (cA 1, 80, .inl (fun _ => 0)))] H := hP
  have hD : va_D A [(h0, .inr (2, [.null, .int 0, .int 0, .int 0])), (q1, .inl (cA 1, 80, .inl (fun _ => 0)))] := hD
  refine va_putF (D := D) (ci := 2) (v := .ref q1) (ty := .array .int) (C := RX2) (T := TX2) (N := 4) hx hb hts zl_2 tyX2 tyX2_ok nmX2 hown hK hP hD hS 0 rfl rfl 0 (by decide) (hts _ zw_109) (fun _ h9 => h9) rfl hin rfl (by decide +kernel) rfl rfl (Nat.le_of_ble_eq_true rfl) dX2_init_9 (fun H locs hP hD hS => ?_)
  have hP : va_P D vwCl [(h0, .inr (2, [.ref q1, .int 0, .int 0, .int 0])), (q1, .inl (cA 1, 80, .inl (fun _ => 0)))] H := hP
  have hD : va_D A [(h0, .inr (2, [.ref q1, .int 0, .int 0, .int 0])), (q1, .inl (cA 1, 80, .inl (fun _ => 0)))] := hD
  refine lv_aload_n hx hb dX2_init_12 rfl (lv_at hl 0 rfl) ?_
  refine lv_iconst (v := (0)) hx hb dX2_init_13 (by decide) ?_
  refine va_put (D := D) (ci := 2) (v := .int (0)) (ty := .int) (C := RX2) (T := TX2) (N := 4) hx hb hts zl_2 tyX2 tyX2_ok nmX2 hown hK hP hD hS 0 rfl rfl 1 (by decide) (hts _ zw_110) (fun _ h9 => h9) rfl (by decide +kernel) rfl rfl (Nat.le_of_ble_eq_true rfl) dX2_init_14 (fun H locs hP hD hS => ?_)
  have hP : va_P D vwCl [(h0, .inr (2, [.ref q1, .int 0, .int 0, .int 0])), (q1, .inl (cA 1, 80, .inl (fun _ => 0)))] H := hP
  have hD : va_D A [(h0, .inr (2, [.ref q1, .int 0, .int 0, .int 0])), (q1, .inl (cA 1, 80, .inl (fun _ => 0)))] := hD
  refine lv_aload_n hx hb dX2_init_17 rfl (lv_at hl 0 rfl) ?_
  refine lv_iconst (v := (0)) hx hb dX2_init_18 (by decide) ?_
  refine va_put (D := D) (ci := 2) (v := .int (0)) (ty := .int) (C := RX2) (T := TX2) (N := 4) hx hb hts zl_2 tyX2 tyX2_ok nmX2 hown hK hP hD hS 0 rfl rfl 2 (by decide) (hts _ zw_112) (fun _ h9 => h9) rfl (by decide +kernel) rfl rfl (Nat.le_of_ble_eq_true rfl) dX2_init_19 (fun H locs hP hD hS => ?_)
  have hP : va_P D vwCl [(h0, .inr (2, [.ref q1, .int 0, .int 0, .int 0])), (q1, .inl (cA 1, 80, .inl (fun _ => 0)))] H := hP
  have hD : va_D A [(h0, .inr (2, [.ref q1, .int 0, .int 0, .int 0])), (q1, .inl (cA 1, 80, .inl (fun _ => 0)))] := hD
  refine lv_aload_n hx hb dX2_init_22 rfl (lv_at hl 0 rfl) ?_
  refine lv_iconst (v := (0)) hx hb dX2_init_23 (by decide) ?_
  refine va_put (D := D) (ci := 2) (v := .int (0)) (ty := .int) (C := RX2) (T := TX2) (N := 4) hx hb hts zl_2 tyX2 tyX2_ok nmX2 hown hK hP hD hS 0 rfl rfl 3 (by decide) (hts _ zw_113) (fun _ h9 => h9) rfl (by decide +kernel) rfl rfl (Nat.le_of_ble_eq_true rfl) dX2_init_24 (fun H locs hP hD hS => ?_)
  have hP : va_P D vwCl [(h0, .inr (2, [.ref q1, .int 0, .int 0, .int 0])), (q1, .inl (cA 1, 80, .inl (fun _ => 0)))] H := hP
  have hD : va_D A [(h0, .inr (2, [.ref q1, .int 0, .int 0, .int 0])), (q1, .inl (cA 1, 80, .inl (fun _ => 0)))] := hD
  refine W.widen (k := 1) (n := 80) (Nat.le_of_ble_eq_true rfl) (Nat.le_of_ble_eq_true rfl) ?_
  exact W.vret hx hb hr (fun t ht hW => ⟨⟨_, rfl, ⟨q1, rfl⟩, by rw [ht]; exact hP, va_K.moved hW.alike hK, hD⟩, hS.F ht⟩) hS.2.2 dX2_init_27
def zp_X1_init (cA : Nat → ClassId) (h0 : Nat) (w : va_W) : Prop := ∃ q1 : Nat, w = [(h0, .inr (1, [.ref q1, .int (-1), .int 0])), (q1, .inl (cA 3, 24, .inr (.inl (fun _ => 0))))]
set_option maxRecDepth 100000 in
set_option maxHeartbeats 4000000 in
theorem c_X1_init : zn_C yX1_init cX1_init 1 ({ frames := 1, cells := 1, slots := 24, locals := 12 } : Room) 1 24 1 [.null, .int 0, .int 0] (zp_X1_init) := by
  intro l D cA h0 sz
  refine Met.ofW (cc := cX1_init) (maxL := 1) (ret := none) (by decide) rfl ?_
  intro p e s m args below meth c s₁ B hml hv
  obtain ⟨rfl, hsz, hP, hK, hD0, hZ⟩ := hv
  have hx := B.exec
  have hb := B.bytes
  have hr := B.returns
  have hts0 := atoms_spec (ws := .code yX1_init cX1_init 1 none :: zk_T) B.pre
  have hts : ∀ w ∈ zk_T, w.before _ s = true := fun w hw => hts0 w (List.mem_cons_of_mem _ hw)
  have hown : s.vm.findClass RX1 = some m.cls := findClass_of_methodNamed B.named
  have hlocks := B.notSynchronized
  have hin : meth.name = "<init>" := (name_of_methodNamed B.named B.method).1
  subst hsz
  have hD := hD0.self (sz := s.heap.size)
  generalize hAe : va_A [(h0, .inr (1, [.null, .int 0, .int 0]))] s.heap.size = A at hD ⊢
  have hA : ∀ q : Nat, s.heap.size ≤ q → A q := fun q h => by rw [← hAe]; exact Or.inr h
  have hS : va_S A s.heap s.heap [] := va_S.rf
  have hl := lv_entry ([.ref h0]) (n := 1) (Nat.le_of_ble_eq_true rfl)
  rw [lg_entry_eq]
  generalize (lg_sl ([.ref h0]) ++ List.replicate (1 - (lg_sl ([.ref h0])).length) Slot.unset).toArray = ls at hl ⊢
  have hl : lv_has ls 1 [(0, .ref h0)] := hl
  refine lv_aload_n hx hb dX1_init_0 rfl (lv_at hl 0 rfl) ?_
  refine W.objInit hx hb hown (hts _ zx_130) (hts _ zx_41) (hts _ zx_42) rfl (by rw [hml]; exact hl.1) rfl dX1_init_1 (Nat.le_of_ble_eq_true rfl) (Nat.le_of_ble_eq_true rfl) ?_
  refine W.eq (g2 := F0 m 4 ls []) rfl ?_
  refine lv_aload_n hx hb dX1_init_4 rfl (lv_at hl 0 rfl) ?_
  refine lv_bipush (v := (24)) hx hb dX1_init_5 (by decide) ?_
  refine zn_long (N' := 24) hx hb (hts _ zx_144) hK hP hD hS hA (by decide) (by decide) (by decide) (Nat.le_of_ble_eq_true rfl) (Nat.le_of_ble_eq_true rfl) dX1_init_7 (fun q1 H hP hD hS => ?_)
  have hP : va_P D vwCl [(h0, .inr (1, [.null, .int 0, .int 0])), (q1, .inl (cA 3, 24, .inr (.inl (fun _ => 0))))] H := hP
  have hD : va_D A [(h0, .inr (1, [.null, .int 0, .int 0])), (q1, .inl (cA 3, 24, .inr (.inl (fun _ => 0))))] := hD
  refine va_putF (D := D) (ci := 1) (v := .ref q1) (ty := .array .long) (C := RX1) (T := TX1) (N := 3) hx hb hts zl_1 tyX1 tyX1_ok nmX1 hown hK hP hD hS 0 rfl rfl 0 (by decide) (hts _ zw_131) (fun _ h9 => h9) rfl hin rfl (by decide +kernel) rfl rfl (Nat.le_of_ble_eq_true rfl) dX1_init_9 (fun H locs hP hD hS => ?_)
  have hP : va_P D vwCl [(h0, .inr (1, [.ref q1, .int 0, .int 0])), (q1, .inl (cA 3, 24, .inr (.inl (fun _ => 0))))] H := hP
  have hD : va_D A [(h0, .inr (1, [.ref q1, .int 0, .int 0])), (q1, .inl (cA 3, 24, .inr (.inl (fun _ => 0))))] := hD
  refine lv_aload_n hx hb dX1_init_12 rfl (lv_at hl 0 rfl) ?_
  refine lv_iconst (v := (-1)) hx hb dX1_init_13 (by decide) ?_
  refine va_put (D := D) (ci := 1) (v := .int (-1)) (ty := .int) (C := RX1) (T := TX1) (N := 3) hx hb hts zl_1 tyX1 tyX1_ok nmX1 hown hK hP hD hS 0 rfl rfl 1 (by decide) (hts _ zw_133) (fun _ h9 => h9) rfl (by decide +kernel) rfl rfl (Nat.le_of_ble_eq_true rfl) dX1_init_14 (fun H locs hP hD hS => ?_)
  have hP : va_P D vwCl [(h0, .inr (1, [.ref q1, .int (-1), .int 0])), (q1, .inl (cA 3, 24, .inr (.inl (fun _ => 0))))] H := hP
  have hD : va_D A [(h0, .inr (1, [.ref q1, .int (-1), .int 0])), (q1, .inl (cA 3, 24, .inr (.inl (fun _ => 0))))] := hD
  refine lv_aload_n hx hb dX1_init_17 rfl (lv_at hl 0 rfl) ?_
  refine lv_iconst (v := (0)) hx hb dX1_init_18 (by decide) ?_
  refine va_put (D := D) (ci := 1) (v := .int (0)) (ty := .int) (C := RX1) (T := TX1) (N := 3) hx hb hts zl_1 tyX1 tyX1_ok nmX1 hown hK hP hD hS 0 rfl rfl 2 (by decide) (hts _ zw_135) (fun _ h9 => h9) rfl (by decide +kernel) rfl rfl (Nat.le_of_ble_eq_true rfl) dX1_init_19 (fun H locs hP hD hS => ?_)
  have hP : va_P D vwCl [(h0, .inr (1, [.ref q1, .int (-1), .int 0])), (q1, .inl (cA 3, 24, .inr (.inl (fun _ => 0))))] H := hP
  have hD : va_D A [(h0, .inr (1, [.ref q1, .int (-1), .int 0])), (q1, .inl (cA 3, 24, .inr (.inl (fun _ => 0))))] := hD
  refine W.widen (k := 1) (n := 24) (Nat.le_of_ble_eq_true rfl) (Nat.le_of_ble_eq_true rfl) ?_
  exact W.vret hx hb hr (fun t ht hW => ⟨⟨_, rfl, ⟨q1, rfl⟩, by rw [ht]; exact hP, va_K.moved hW.alike hK, hD⟩, hS.F ht⟩) hS.2.2 dX1_init_22
def zp_X5_init (cA : Nat → ClassId) (h0 : Nat) (w : va_W) : Prop := ∃ q1 q2 q3 q4 q5 q6 q7 q8 q9 q10 q11 : Nat, w = [(h0, .inr (5, [.ref q1, .ref q2, .ref q3, .int 0, .ref q4, .ref q5, .int 0, .int 0, .ref q6, .ref q7, .int 0, .int 0, .int 0, .int 0, .ref q8, .ref q9, .ref q10, .ref q11])), (q1, .inl (cA 1, 32, .inl (upd (fun _ => 0) (Int32.toNatClampNeg 3) 1))), (q2, .inl (cA 1, 32, .inl (fun _ => 0))), (q3, .inl (cA 1, 256, .inl (fun _ => 0))), (q4, .inl (cA 1, 32, .inl (fun _ => 0))), (q5, .inl (cA 1, 256, .inl (fun _ => 0))), (q6, .inl (cA 1, 7, .inl (fun _ => 0))), (q7, .inl (cA 2, 80, .inl (fun _ => 0))), (q8, .inl (cA 1, 4, .inl (fun _ => 0))), (q9, .inl (cA 1, 4, .inl (fun _ => 0))), (q10, .inl (cA 3, 96, .inr (.inl (fun _ => 0)))), (q11, .inl (cA 3, 24, .inr (.inl (fun _ => 0))))]
set_option maxRecDepth 100000 in
set_option maxHeartbeats 4000000 in
theorem c_X5_init : zn_C yX5_init cX5_init 1 ({ frames := 1, cells := 11, slots := 823, locals := 12 } : Room) 11 823 5 [.null, .null, .null, .int 0, .null, .null, .int 0, .int 0, .null, .null, .int 0, .int 0, .int 0, .int 0, .null, .null, .null, .null] (zp_X5_init) := by
  intro l D cA h0 sz
  refine Met.ofW (cc := cX5_init) (maxL := 1) (ret := none) (by decide) rfl ?_
  intro p e s m args below meth c s₁ B hml hv
  obtain ⟨rfl, hsz, hP, hK, hD0, hZ⟩ := hv
  have hx := B.exec
  have hb := B.bytes
  have hr := B.returns
  have hts0 := atoms_spec (ws := .code yX5_init cX5_init 1 none :: zk_T) B.pre
  have hts : ∀ w ∈ zk_T, w.before _ s = true := fun w hw => hts0 w (List.mem_cons_of_mem _ hw)
  have hown : s.vm.findClass RX5 = some m.cls := findClass_of_methodNamed B.named
  have hlocks := B.notSynchronized
  have hin : meth.name = "<init>" := (name_of_methodNamed B.named B.method).1
  subst hsz
  have hD := hD0.self (sz := s.heap.size)
  generalize hAe : va_A [(h0, .inr (5, [.null, .null, .null, .int 0, .null, .null, .int 0, .int 0, .null, .null, .int 0, .int 0, .int 0, .int 0, .null, .null, .null, .null]))] s.heap.size = A at hD ⊢
  have hA : ∀ q : Nat, s.heap.size ≤ q → A q := fun q h => by rw [← hAe]; exact Or.inr h
  have hS : va_S A s.heap s.heap [] := va_S.rf
  have hl := lv_entry ([.ref h0]) (n := 1) (Nat.le_of_ble_eq_true rfl)
  rw [lg_entry_eq]
  generalize (lg_sl ([.ref h0]) ++ List.replicate (1 - (lg_sl ([.ref h0])).length) Slot.unset).toArray = ls at hl ⊢
  have hl : lv_has ls 1 [(0, .ref h0)] := hl
  refine lv_aload_n hx hb dX5_init_0 rfl (lv_at hl 0 rfl) ?_
  refine W.objInit hx hb hown (hts _ zx_542) (hts _ zx_41) (hts _ zx_42) rfl (by rw [hml]; exact hl.1) rfl dX5_init_1 (Nat.le_of_ble_eq_true rfl) (Nat.le_of_ble_eq_true rfl) ?_
  refine W.eq (g2 := F0 m 4 ls []) rfl ?_
  refine lv_aload_n hx hb dX5_init_4 rfl (lv_at hl 0 rfl) ?_
  refine lv_bipush (v := (32)) hx hb dX5_init_5 (by decide) ?_
  refine zn_int (N' := 32) hx hb (hts _ zx_82) hK hP hD hS hA (by decide) (by decide) (by decide) (Nat.le_of_ble_eq_true rfl) (Nat.le_of_ble_eq_true rfl) dX5_init_7 (fun q1 H hP hD hS => ?_)
  have hP : va_P D vwCl [(h0, .inr (5, [.null, .null, .null, .int 0, .null, .null, .int 0, .int 0, .null, .null, .int 0, .int 0, .int 0, .int 0, .null, .null, .null, .null])), (q1, .inl (cA 1, 32, .inl (fun _ => 0)))] H := hP
  have hD : va_D A [(h0, .inr (5, [.null, .null, .null, .int 0, .null, .null, .int 0, .int 0, .null, .null, .int 0, .int 0, .int 0, .int 0, .null, .null, .null, .null])), (q1, .inl (cA 1, 32, .inl (fun _ => 0)))] := hD
  refine va_putF (D := D) (ci := 5) (v := .ref q1) (ty := .array .int) (C := RX5) (T := TX5) (N := 18) hx hb hts zl_5 tyX5 tyX5_ok nmX5 hown hK hP hD hS 0 rfl rfl 0 (by decide) (hts _ zw_543) (fun _ h9 => h9) rfl hin rfl (by decide +kernel) rfl rfl (Nat.le_of_ble_eq_true rfl) dX5_init_9 (fun H locs hP hD hS => ?_)
  have hP : va_P D vwCl [(h0, .inr (5, [.ref q1, .null, .null, .int 0, .null, .null, .int 0, .int 0, .null, .null, .int 0, .int 0, .int 0, .int 0, .null, .null, .null, .null])), (q1, .inl (cA 1, 32, .inl (fun _ => 0)))] H := hP
  have hD : va_D A [(h0, .inr (5, [.ref q1, .null, .null, .int 0, .null, .null, .int 0, .int 0, .null, .null, .int 0, .int 0, .int 0, .int 0, .null, .null, .null, .null])), (q1, .inl (cA 1, 32, .inl (fun _ => 0)))] := hD
  refine lv_aload_n hx hb dX5_init_12 rfl (lv_at hl 0 rfl) ?_
  refine lv_bipush (v := (32)) hx hb dX5_init_13 (by decide) ?_
  refine zn_int (N' := 32) hx hb (hts _ zx_82) hK hP hD hS hA (by decide) (by decide) (by decide) (Nat.le_of_ble_eq_true rfl) (Nat.le_of_ble_eq_true rfl) dX5_init_15 (fun q2 H hP hD hS => ?_)
  have hP : va_P D vwCl [(h0, .inr (5, [.ref q1, .null, .null, .int 0, .null, .null, .int 0, .int 0, .null, .null, .int 0, .int 0, .int 0, .int 0, .null, .null, .null, .null])), (q1, .inl (cA 1, 32, .inl (fun _ => 0))), (q2, .inl (cA 1, 32, .inl (fun _ => 0)))] H := hP
  have hD : va_D A [(h0, .inr (5, [.ref q1, .null, .null, .int 0, .null, .null, .int 0, .int 0, .null, .null, .int 0, .int 0, .int 0, .int 0, .null, .null, .null, .null])), (q1, .inl (cA 1, 32, .inl (fun _ => 0))), (q2, .inl (cA 1, 32, .inl (fun _ => 0)))] := hD
  refine va_putF (D := D) (ci := 5) (v := .ref q2) (ty := .array .int) (C := RX5) (T := TX5) (N := 18) hx hb hts zl_5 tyX5 tyX5_ok nmX5 hown hK hP hD hS 0 rfl rfl 1 (by decide) (hts _ zw_544) (fun _ h9 => h9) rfl hin rfl (by decide +kernel) rfl rfl (Nat.le_of_ble_eq_true rfl) dX5_init_17 (fun H locs hP hD hS => ?_)
  have hP : va_P D vwCl [(h0, .inr (5, [.ref q1, .ref q2, .null, .int 0, .null, .null, .int 0, .int 0, .null, .null, .int 0, .int 0, .int 0, .int 0, .null, .null, .null, .null])), (q1, .inl (cA 1, 32, .inl (fun _ => 0))), (q2, .inl (cA 1, 32, .inl (fun _ => 0)))] H := hP
  have hD : va_D A [(h0, .inr (5, [.ref q1, .ref q2, .null, .int 0, .null, .null, .int 0, .int 0, .null, .null, .int 0, .int 0, .int 0, .int 0, .null, .null, .null, .null])), (q1, .inl (cA 1, 32, .inl (fun _ => 0))), (q2, .inl (cA 1, 32, .inl (fun _ => 0)))] := hD
  refine lv_aload_n hx hb dX5_init_20 rfl (lv_at hl 0 rfl) ?_
  refine lv_sipush (v := (256)) hx hb dX5_init_21 (by decide) ?_
  refine zn_int (N' := 256) hx hb (hts _ zx_82) hK hP hD hS hA (by decide) (by decide) (by decide) (Nat.le_of_ble_eq_true rfl) (Nat.le_of_ble_eq_true rfl) dX5_init_24 (fun q3 H hP hD hS => ?_)
  have hP : va_P D vwCl [(h0, .inr (5, [.ref q1, .ref q2, .null, .int 0, .null, .null, .int 0, .int 0, .null, .null, .int 0, .int 0, .int 0, .int 0, .null, .null, .null, .null])), (q1, .inl (cA 1, 32, .inl (fun _ => 0))), (q2, .inl (cA 1, 32, .inl (fun _ => 0))), (q3, .inl (cA 1, 256, .inl (fun _ => 0)))] H := hP
  have hD : va_D A [(h0, .inr (5, [.ref q1, .ref q2, .null, .int 0, .null, .null, .int 0, .int 0, .null, .null, .int 0, .int 0, .int 0, .int 0, .null, .null, .null, .null])), (q1, .inl (cA 1, 32, .inl (fun _ => 0))), (q2, .inl (cA 1, 32, .inl (fun _ => 0))), (q3, .inl (cA 1, 256, .inl (fun _ => 0)))] := hD
  refine va_putF (D := D) (ci := 5) (v := .ref q3) (ty := .array .int) (C := RX5) (T := TX5) (N := 18) hx hb hts zl_5 tyX5 tyX5_ok nmX5 hown hK hP hD hS 0 rfl rfl 2 (by decide) (hts _ zw_545) (fun _ h9 => h9) rfl hin rfl (by decide +kernel) rfl rfl (Nat.le_of_ble_eq_true rfl) dX5_init_26 (fun H locs hP hD hS => ?_)
  have hP : va_P D vwCl [(h0, .inr (5, [.ref q1, .ref q2, .ref q3, .int 0, .null, .null, .int 0, .int 0, .null, .null, .int 0, .int 0, .int 0, .int 0, .null, .null, .null, .null])), (q1, .inl (cA 1, 32, .inl (fun _ => 0))), (q2, .inl (cA 1, 32, .inl (fun _ => 0))), (q3, .inl (cA 1, 256, .inl (fun _ => 0)))] H := hP
  have hD : va_D A [(h0, .inr (5, [.ref q1, .ref q2, .ref q3, .int 0, .null, .null, .int 0, .int 0, .null, .null, .int 0, .int 0, .int 0, .int 0, .null, .null, .null, .null])), (q1, .inl (cA 1, 32, .inl (fun _ => 0))), (q2, .inl (cA 1, 32, .inl (fun _ => 0))), (q3, .inl (cA 1, 256, .inl (fun _ => 0)))] := hD
  refine lv_aload_n hx hb dX5_init_29 rfl (lv_at hl 0 rfl) ?_
  refine lv_bipush (v := (32)) hx hb dX5_init_30 (by decide) ?_
  refine zn_int (N' := 32) hx hb (hts _ zx_82) hK hP hD hS hA (by decide) (by decide) (by decide) (Nat.le_of_ble_eq_true rfl) (Nat.le_of_ble_eq_true rfl) dX5_init_32 (fun q4 H hP hD hS => ?_)
  have hP : va_P D vwCl [(h0, .inr (5, [.ref q1, .ref q2, .ref q3, .int 0, .null, .null, .int 0, .int 0, .null, .null, .int 0, .int 0, .int 0, .int 0, .null, .null, .null, .null])), (q1, .inl (cA 1, 32, .inl (fun _ => 0))), (q2, .inl (cA 1, 32, .inl (fun _ => 0))), (q3, .inl (cA 1, 256, .inl (fun _ => 0))), (q4, .inl (cA 1, 32, .inl (fun _ => 0)))] H := hP
  have hD : va_D A [(h0, .inr (5, [.ref q1, .ref q2, .ref q3, .int 0, .null, .null, .int 0, .int 0, .null, .null, .int 0, .int 0, .int 0, .int 0, .null, .null, .null, .null])), (q1, .inl (cA 1, 32, .inl (fun _ => 0))), (q2, .inl (cA 1, 32, .inl (fun _ => 0))), (q3, .inl (cA 1, 256, .inl (fun _ => 0))), (q4, .inl (cA 1, 32, .inl (fun _ => 0)))] := hD
  refine va_putF (D := D) (ci := 5) (v := .ref q4) (ty := .array .int) (C := RX5) (T := TX5) (N := 18) hx hb hts zl_5 tyX5 tyX5_ok nmX5 hown hK hP hD hS 0 rfl rfl 4 (by decide) (hts _ zw_547) (fun _ h9 => h9) rfl hin rfl (by decide +kernel) rfl rfl (Nat.le_of_ble_eq_true rfl) dX5_init_34 (fun H locs hP hD hS => ?_)
  have hP : va_P D vwCl [(h0, .inr (5, [.ref q1, .ref q2, .ref q3, .int 0, .ref q4, .null, .int 0, .int 0, .null, .null, .int 0, .int 0, .int 0, .int 0, .null, .null, .null, .null])), (q1, .inl (cA 1, 32, .inl (fun _ => 0))), (q2, .inl (cA 1, 32, .inl (fun _ => 0))), (q3, .inl (cA 1, 256, .inl (fun _ => 0))), (q4, .inl (cA 1, 32, .inl (fun _ => 0)))] H := hP
  have hD : va_D A [(h0, .inr (5, [.ref q1, .ref q2, .ref q3, .int 0, .ref q4, .null, .int 0, .int 0, .null, .null, .int 0, .int 0, .int 0, .int 0, .null, .null, .null, .null])), (q1, .inl (cA 1, 32, .inl (fun _ => 0))), (q2, .inl (cA 1, 32, .inl (fun _ => 0))), (q3, .inl (cA 1, 256, .inl (fun _ => 0))), (q4, .inl (cA 1, 32, .inl (fun _ => 0)))] := hD
  refine lv_aload_n hx hb dX5_init_37 rfl (lv_at hl 0 rfl) ?_
  refine lv_sipush (v := (256)) hx hb dX5_init_38 (by decide) ?_
  refine zn_int (N' := 256) hx hb (hts _ zx_82) hK hP hD hS hA (by decide) (by decide) (by decide) (Nat.le_of_ble_eq_true rfl) (Nat.le_of_ble_eq_true rfl) dX5_init_41 (fun q5 H hP hD hS => ?_)
  have hP : va_P D vwCl [(h0, .inr (5, [.ref q1, .ref q2, .ref q3, .int 0, .ref q4, .null, .int 0, .int 0, .null, .null, .int 0, .int 0, .int 0, .int 0, .null, .null, .null, .null])), (q1, .inl (cA 1, 32, .inl (fun _ => 0))), (q2, .inl (cA 1, 32, .inl (fun _ => 0))), (q3, .inl (cA 1, 256, .inl (fun _ => 0))), (q4, .inl (cA 1, 32, .inl (fun _ => 0))), (q5, .inl (cA 1, 256, .inl (fun _ => 0)))] H := hP
  have hD : va_D A [(h0, .inr (5, [.ref q1, .ref q2, .ref q3, .int 0, .ref q4, .null, .int 0, .int 0, .null, .null, .int 0, .int 0, .int 0, .int 0, .null, .null, .null, .null])), (q1, .inl (cA 1, 32, .inl (fun _ => 0))), (q2, .inl (cA 1, 32, .inl (fun _ => 0))), (q3, .inl (cA 1, 256, .inl (fun _ => 0))), (q4, .inl (cA 1, 32, .inl (fun _ => 0))), (q5, .inl (cA 1, 256, .inl (fun _ => 0)))] := hD
  refine va_putF (D := D) (ci := 5) (v := .ref q5) (ty := .array .int) (C := RX5) (T := TX5) (N := 18) hx hb hts zl_5 tyX5 tyX5_ok nmX5 hown hK hP hD hS 0 rfl rfl 5 (by decide) (hts _ zw_548) (fun _ h9 => h9) rfl hin rfl (by decide +kernel) rfl rfl (Nat.le_of_ble_eq_true rfl) dX5_init_43 (fun H locs hP hD hS => ?_)
  have hP : va_P D vwCl [(h0, .inr (5, [.ref q1, .ref q2, .ref q3, .int 0, .ref q4, .ref q5, .int 0, .int 0, .null, .null, .int 0, .int 0, .int 0, .int 0, .null, .null, .null, .null])), (q1, .inl (cA 1, 32, .inl (fun _ => 0))), (q2, .inl (cA 1, 32, .inl (fun _ => 0))), (q3, .inl (cA 1, 256, .inl (fun _ => 0))), (q4, .inl (cA 1, 32, .inl (fun _ => 0))), (q5, .inl (cA 1, 256, .inl (fun _ => 0)))] H := hP
  have hD : va_D A [(h0, .inr (5, [.ref q1, .ref q2, .ref q3, .int 0, .ref q4, .ref q5, .int 0, .int 0, .null, .null, .int 0, .int 0, .int 0, .int 0, .null, .null, .null, .null])), (q1, .inl (cA 1, 32, .inl (fun _ => 0))), (q2, .inl (cA 1, 32, .inl (fun _ => 0))), (q3, .inl (cA 1, 256, .inl (fun _ => 0))), (q4, .inl (cA 1, 32, .inl (fun _ => 0))), (q5, .inl (cA 1, 256, .inl (fun _ => 0)))] := hD
  refine lv_aload_n hx hb dX5_init_46 rfl (lv_at hl 0 rfl) ?_
  refine lv_bipush (v := (7)) hx hb dX5_init_47 (by decide) ?_
  refine zn_int (N' := 7) hx hb (hts _ zx_82) hK hP hD hS hA (by decide) (by decide) (by decide) (Nat.le_of_ble_eq_true rfl) (Nat.le_of_ble_eq_true rfl) dX5_init_49 (fun q6 H hP hD hS => ?_)
  have hP : va_P D vwCl [(h0, .inr (5, [.ref q1, .ref q2, .ref q3, .int 0, .ref q4, .ref q5, .int 0, .int 0, .null, .null, .int 0, .int 0, .int 0, .int 0, .null, .null, .null, .null])), (q1, .inl (cA 1, 32, .inl (fun _ => 0))), (q2, .inl (cA 1, 32, .inl (fun _ => 0))), (q3, .inl (cA 1, 256, .inl (fun _ => 0))), (q4, .inl (cA 1, 32, .inl (fun _ => 0))), (q5, .inl (cA 1, 256, .inl (fun _ => 0))), (q6, .inl (cA 1, 7, .inl (fun _ => 0)))] H := hP
  have hD : va_D A [(h0, .inr (5, [.ref q1, .ref q2, .ref q3, .int 0, .ref q4, .ref q5, .int 0, .int 0, .null, .null, .int 0, .int 0, .int 0, .int 0, .null, .null, .null, .null])), (q1, .inl (cA 1, 32, .inl (fun _ => 0))), (q2, .inl (cA 1, 32, .inl (fun _ => 0))), (q3, .inl (cA 1, 256, .inl (fun _ => 0))), (q4, .inl (cA 1, 32, .inl (fun _ => 0))), (q5, .inl (cA 1, 256, .inl (fun _ => 0))), (q6, .inl (cA 1, 7, .inl (fun _ => 0)))] := hD
  refine va_putF (D := D) (ci := 5) (v := .ref q6) (ty := .array .int) (C := RX5) (T := TX5) (N := 18) hx hb hts zl_5 tyX5 tyX5_ok nmX5 hown hK hP hD hS 0 rfl rfl 8 (by decide) (hts _ zw_551) (fun _ h9 => h9) rfl hin rfl (by decide +kernel) rfl rfl (Nat.le_of_ble_eq_true rfl) dX5_init_51 (fun H locs hP hD hS => ?_)
  have hP : va_P D vwCl [(h0, .inr (5, [.ref q1, .ref q2, .ref q3, .int 0, .ref q4, .ref q5, .int 0, .int 0, .ref q6, .null, .int 0, .int 0, .int 0, .int 0, .null, .null, .null, .null])), (q1, .inl (cA 1, 32, .inl (fun _ => 0))), (q2, .inl (cA 1, 32, .inl (fun _ => 0))), (q3, .inl (cA 1, 256, .inl (fun _ => 0))), (q4, .inl (cA 1, 32, .inl (fun _ => 0))), (q5, .inl (cA 1, 256, .inl (fun _ => 0))), (q6, .inl (cA 1, 7, .inl (fun _ => 0)))] H := hP
  have hD : va_D A [(h0, .inr (5, [.ref q1, .ref q2, .ref q3, .int 0, .ref q4, .ref q5, .int 0, .int 0, .ref q6, .null, .int 0, .int 0, .int 0, .int 0, .null, .null, .null, .null])), (q1, .inl (cA 1, 32, .inl (fun _ => 0))), (q2, .inl (cA 1, 32, .inl (fun _ => 0))), (q3, .inl (cA 1, 256, .inl (fun _ => 0))), (q4, .inl (cA 1, 32, .inl (fun _ => 0))), (q5, .inl (cA 1, 256, .inl (fun _ => 0))), (q6, .inl (cA 1, 7, .inl (fun _ => 0)))] := hD
  refine lv_aload_n hx hb dX5_init_54 rfl (lv_at hl 0 rfl) ?_
  refine lv_bipush (v := (80)) hx hb dX5_init_55 (by decide) ?_
  refine zn_byte (N' := 80) hx hb (hts _ zx_598) hK hP hD hS hA (by decide) (by decide) (by decide) (Nat.le_of_ble_eq_true rfl) (Nat.le_of_ble_eq_true rfl) dX5_init_57 (fun q7 H hP hD hS => ?_)
  have hP : va_P D vwCl [(h0, .inr (5, [.ref q1, .ref q2, .ref q3, .int 0, .ref q4, .ref q5, .int 0, .int 0, .ref q6, .null, .int 0, .int 0, .int 0, .int 0, .null, .null, .null, .null])), (q1, .inl (cA 1, 32, .inl (fun _ => 0))), (q2, .inl (cA 1, 32, .inl (fun _ => 0))), (q3, .inl (cA 1, 256, .inl (fun _ => 0))), (q4, .inl (cA 1, 32, .inl (fun _ => 0))), (q5, .inl (cA 1, 256, .inl (fun _ => 0))), (q6, .inl (cA 1, 7, .inl (fun _ => 0))), (q7, .inl (cA 2, 80, .inl (fun _ => 0)))] H := hP
  have hD : va_D A [(h0, .inr (5, [.ref q1, .ref q2, .ref q3, .int 0, .ref q4, .ref q5, .int 0, .int 0, .ref q6, .null, .int 0, .int 0, .int 0, .int 0, .null, .null, .null, .null])), (q1, .inl (cA 1, 32, .inl (fun _ => 0))), (q2, .inl (cA 1, 32, .inl (fun _ => 0))), (q3, .inl (cA 1, 256, .inl (fun _ => 0))), (q4, .inl (cA 1, 32, .inl (fun _ => 0))), (q5, .inl (cA 1, 256, .inl (fun _ => 0))), (q6, .inl (cA 1, 7, .inl (fun _ => 0))), (q7, .inl (cA 2, 80, .inl (fun _ => 0)))] := hD
  refine va_putF (D := D) (ci := 5) (v := .ref q7) (ty := .array .byte) (C := RX5) (T := TX5) (N := 18) hx hb hts zl_5 tyX5 tyX5_ok nmX5 hown hK hP hD hS 0 rfl rfl 9 (by decide) (hts _ zw_552) (fun _ h9 => h9) rfl hin rfl (by decide +kernel) rfl rfl (Nat.le_of_ble_eq_true rfl) dX5_init_59 (fun H locs hP hD hS => ?_)
  have hP : va_P D vwCl [(h0, .inr (5, [.ref q1, .ref q2, .ref q3, .int 0, .ref q4, .ref q5, .int 0, .int 0, .ref q6, .ref q7, .int 0, .int 0, .int 0, .int 0, .null, .null, .null, .null])), (q1, .inl (cA 1, 32, .inl (fun _ => 0))), (q2, .inl (cA 1, 32, .inl (fun _ => 0))), (q3, .inl (cA 1, 256, .inl (fun _ => 0))), (q4, .inl (cA 1, 32, .inl (fun _ => 0))), (q5, .inl (cA 1, 256, .inl (fun _ => 0))), (q6, .inl (cA 1, 7, .inl (fun _ => 0))), (q7, .inl (cA 2, 80, .inl (fun _ => 0)))] H := hP
  have hD : va_D A [(h0, .inr (5, [.ref q1, .ref q2, .ref q3, .int 0, .ref q4, .ref q5, .int 0, .int 0, .ref q6, .ref q7, .int 0, .int 0, .int 0, .int 0, .null, .null, .null, .null])), (q1, .inl (cA 1, 32, .inl (fun _ => 0))), (q2, .inl (cA 1, 32, .inl (fun _ => 0))), (q3, .inl (cA 1, 256, .inl (fun _ => 0))), (q4, .inl (cA 1, 32, .inl (fun _ => 0))), (q5, .inl (cA 1, 256, .inl (fun _ => 0))), (q6, .inl (cA 1, 7, .inl (fun _ => 0))), (q7, .inl (cA 2, 80, .inl (fun _ => 0)))] := hD
  refine lv_aload_n hx hb dX5_init_62 rfl (lv_at hl 0 rfl) ?_
  refine lv_iconst (v := (4)) hx hb dX5_init_63 (by decide) ?_
  refine zn_int (N' := 4) hx hb (hts _ zx_82) hK hP hD hS hA (by decide) (by decide) (by decide) (Nat.le_of_ble_eq_true rfl) (Nat.le_of_ble_eq_true rfl) dX5_init_64 (fun q8 H hP hD hS => ?_)
  have hP : va_P D vwCl [(h0, .inr (5, [.ref q1, .ref q2, .ref q3, .int 0, .ref q4, .ref q5, .int 0, .int 0, .ref q6, .ref q7, .int 0, .int 0, .int 0, .int 0, .null, .null, .null, .null])), (q1, .inl (cA 1, 32, .inl (fun _ => 0))), (q2, .inl (cA 1, 32, .inl (fun _ => 0))), (q3, .inl (cA 1, 256, .inl (fun _ => 0))), (q4, .inl (cA 1, 32, .inl (fun _ => 0))), (q5, .inl (cA 1, 256, .inl (fun _ => 0))), (q6, .inl (cA 1, 7, .inl (fun _ => 0))), (q7, .inl (cA 2, 80, .inl (fun _ => 0))), (q8, .inl (cA 1, 4, .inl (fun _ => 0)))] H := hP
  have hD : va_D A [(h0, .inr (5, [.ref q1, .ref q2, .ref q3, .int 0, .ref q4, .ref q5, .int 0, .int 0, .ref q6, .ref q7, .int 0, .int 0, .int 0, .int 0, .null, .null, .null, .null])), (q1, .inl (cA 1, 32, .inl (fun _ => 0))), (q2, .inl (cA 1, 32, .inl (fun _ => 0))), (q3, .inl (cA 1, 256, .inl (fun _ => 0))), (q4, .inl (cA 1, 32, .inl (fun _ => 0))), (q5, .inl (cA 1, 256, .inl (fun _ => 0))), (q6, .inl (cA 1, 7, .inl (fun _ => 0))), (q7, .inl (cA 2, 80, .inl (fun _ => 0))), (q8, .inl (cA 1, 4, .inl (fun _ => 0)))] := hD
  refine va_putF (D := D) (ci := 5) (v := .ref q8) (ty := .array .int) (C := RX5) (T := TX5) (N := 18) hx hb hts zl_5 tyX5 tyX5_ok nmX5 hown hK hP hD hS 0 rfl rfl 14 (by decide) (hts _ zw_557) (fun _ h9 => h9) rfl hin rfl (by decide +kernel) rfl rfl (Nat.le_of_ble_eq_true rfl) dX5_init_66 (fun H locs hP hD hS => ?_)
  have hP : va_P D vwCl [(h0, .inr (5, [.ref q1, .ref q2, .ref q3, .int 0, .ref q4, .ref q5, .int 0, .int 0, .ref q6, .ref q7, .int 0, .int 0, .int 0, .int 0, .ref q8, .null, .null, .null])), (q1, .inl (cA 1, 32, .inl (fun _ => 0))), (q2, .inl (cA 1, 32, .inl (fun _ => 0))), (q3, .inl (cA 1, 256, .inl (fun _ => 0))), (q4, .inl (cA 1, 32, .inl (fun _ => 0))), (q5, .inl (cA 1, 256, .inl (fun _ => 0))), (q6, .inl (cA 1, 7, .inl (fun _ => 0))), (q7, .inl (cA 2, 80, .inl (fun _ => 0))), (q8, .inl (cA 1, 4, .inl (fun _ => 0)))] H := hP
  have hD : va_D A [(h0, .inr (5, [.ref q1, .ref q2, .ref q3, .int 0, .ref q4, .ref q5, .int 0, .int 0, .ref q6, .ref q7, .int 0, .int 0, .int 0, .int 0, .ref q8, .null, .null, .null])), (q1, .inl (cA 1, 32, .inl (fun _ => 0))), (q2, .inl (cA 1, 32, .inl (fun _ => 0))), (q3, .inl (cA 1, 256, .inl (fun _ => 0))), (q4, .inl (cA 1, 32, .inl (fun _ => 0))), (q5, .inl (cA 1, 256, .inl (fun _ => 0))), (q6, .inl (cA 1, 7, .inl (fun _ => 0))), (q7, .inl (cA 2, 80, .inl (fun _ => 0))), (q8, .inl (cA 1, 4, .inl (fun _ => 0)))] := hD
  refine lv_aload_n hx hb dX5_init_69 rfl (lv_at hl 0 rfl) ?_
  refine lv_iconst (v := (4)) hx hb dX5_init_70 (by decide) ?_
  refine zn_int (N' := 4) hx hb (hts _ zx_82) hK hP hD hS hA (by decide) (by decide) (by decide) (Nat.le_of_ble_eq_true rfl) (Nat.le_of_ble_eq_true rfl) dX5_init_71 (fun q9 H hP hD hS => ?_)
  have hP : va_P D vwCl [(h0, .inr (5, [.ref q1, .ref q2, .ref q3, .int 0, .ref q4, .ref q5, .int 0, .int 0, .ref q6, .ref q7, .int 0, .int 0, .int 0, .int 0, .ref q8, .null, .null, .null])), (q1, .inl (cA 1, 32, .inl (fun _ => 0))), (q2, .inl (cA 1, 32, .inl (fun _ => 0))), (q3, .inl (cA 1, 256, .inl (fun _ => 0))), (q4, .inl (cA 1, 32, .inl (fun _ => 0))), (q5, .inl (cA 1, 256, .inl (fun _ => 0))), (q6, .inl (cA 1, 7, .inl (fun _ => 0))), (q7, .inl (cA 2, 80, .inl (fun _ => 0))), (q8, .inl (cA 1, 4, .inl (fun _ => 0))), (q9, .inl (cA 1, 4, .inl (fun _ => 0)))] H := hP
  have hD : va_D A [(h0, .inr (5, [.ref q1, .ref q2, .ref q3, .int 0, .ref q4, .ref q5, .int 0, .int 0, .ref q6, .ref q7, .int 0, .int 0, .int 0, .int 0, .ref q8, .null, .null, .null])), (q1, .inl (cA 1, 32, .inl (fun _ => 0))), (q2, .inl (cA 1, 32, .inl (fun _ => 0))), (q3, .inl (cA 1, 256, .inl (fun _ => 0))), (q4, .inl (cA 1, 32, .inl (fun _ => 0))), (q5, .inl (cA 1, 256, .inl (fun _ => 0))), (q6, .inl (cA 1, 7, .inl (fun _ => 0))), (q7, .inl (cA 2, 80, .inl (fun _ => 0))), (q8, .inl (cA 1, 4, .inl (fun _ => 0))), (q9, .inl (cA 1, 4, .inl (fun _ => 0)))] := hD
  refine va_putF (D := D) (ci := 5) (v := .ref q9) (ty := .array .int) (C := RX5) (T := TX5) (N := 18) hx hb hts zl_5 tyX5 tyX5_ok nmX5 hown hK hP hD hS 0 rfl rfl 15 (by decide) (hts _ zw_558) (fun _ h9 => h9) rfl hin rfl (by decide +kernel) rfl rfl (Nat.le_of_ble_eq_true rfl) dX5_init_73 (fun H locs hP hD hS => ?_)
  have hP : va_P D vwCl [(h0, .inr (5, [.ref q1, .ref q2, .ref q3, .int 0, .ref q4, .ref q5, .int 0, .int 0, .ref q6, .ref q7, .int 0, .int 0, .int 0, .int 0, .ref q8, .ref q9, .null, .null])), (q1, .inl (cA 1, 32, .inl (fun _ => 0))), (q2, .inl (cA 1, 32, .inl (fun _ => 0))), (q3, .inl (cA 1, 256, .inl (fun _ => 0))), (q4, .inl (cA 1, 32, .inl (fun _ => 0))), (q5, .inl (cA 1, 256, .inl (fun _ => 0))), (q6, .inl (cA 1, 7, .inl (fun _ => 0))), (q7, .inl (cA 2, 80, .inl (fun _ => 0))), (q8, .inl (cA 1, 4, .inl (fun _ => 0))), (q9, .inl (cA 1, 4, .inl (fun _ => 0)))] H := hP
  have hD : va_D A [(h0, .inr (5, [.ref q1, .ref q2, .ref q3, .int 0, .ref q4, .ref q5, .int 0, .int 0, .ref q6, .ref q7, .int 0, .int 0, .int 0, .int 0, .ref q8, .ref q9, .null, .null])), (q1, .inl (cA 1, 32, .inl (fun _ => 0))), (q2, .inl (cA 1, 32, .inl (fun _ => 0))), (q3, .inl (cA 1, 256, .inl (fun _ => 0))), (q4, .inl (cA 1, 32, .inl (fun _ => 0))), (q5, .inl (cA 1, 256, .inl (fun _ => 0))), (q6, .inl (cA 1, 7, .inl (fun _ => 0))), (q7, .inl (cA 2, 80, .inl (fun _ => 0))), (q8, .inl (cA 1, 4, .inl (fun _ => 0))), (q9, .inl (cA 1, 4, .inl (fun _ => 0)))] := hD
  refine lv_aload_n hx hb dX5_init_76 rfl (lv_at hl 0 rfl) ?_
  refine lv_bipush (v := (96)) hx hb dX5_init_77 (by decide) ?_
  refine zn_long (N' := 96) hx hb (hts _ zx_144) hK hP hD hS hA (by decide) (by decide) (by decide) (Nat.le_of_ble_eq_true rfl) (Nat.le_of_ble_eq_true rfl) dX5_init_79 (fun q10 H hP hD hS => ?_)
  have hP : va_P D vwCl [(h0, .inr (5, [.ref q1, .ref q2, .ref q3, .int 0, .ref q4, .ref q5, .int 0, .int 0, .ref q6, .ref q7, .int 0, .int 0, .int 0, .int 0, .ref q8, .ref q9, .null, .null])), (q1, .inl (cA 1, 32, .inl (fun _ => 0))), (q2, .inl (cA 1, 32, .inl (fun _ => 0))), (q3, .inl (cA 1, 256, .inl (fun _ => 0))), (q4, .inl (cA 1, 32, .inl (fun _ => 0))), (q5, .inl (cA 1, 256, .inl (fun _ => 0))), (q6, .inl (cA 1, 7, .inl (fun _ => 0))), (q7, .inl (cA 2, 80, .inl (fun _ => 0))), (q8, .inl (cA 1, 4, .inl (fun _ => 0))), (q9, .inl (cA 1, 4, .inl (fun _ => 0))), (q10, .inl (cA 3, 96, .inr (.inl (fun _ => 0))))] H := hP
  have hD : va_D A [(h0, .inr (5, [.ref q1, .ref q2, .ref q3, .int 0, .ref q4, .ref q5, .int 0, .int 0, .ref q6, .ref q7, .int 0, .int 0, .int 0, .int 0, .ref q8, .ref q9, .null, .null])), (q1, .inl (cA 1, 32, .inl (fun _ => 0))), (q2, .inl (cA 1, 32, .inl (fun _ => 0))), (q3, .inl (cA 1, 256, .inl (fun _ => 0))), (q4, .inl (cA 1, 32, .inl (fun _ => 0))), (q5, .inl (cA 1, 256, .inl (fun _ => 0))), (q6, .inl (cA 1, 7, .inl (fun _ => 0))), (q7, .inl (cA 2, 80, .inl (fun _ => 0))), (q8, .inl (cA 1, 4, .inl (fun _ => 0))), (q9, .inl (cA 1, 4, .inl (fun _ => 0))), (q10, .inl (cA 3, 96, .inr (.inl (fun _ => 0))))] := hD
  refine va_putF (D := D) (ci := 5) (v := .ref q10) (ty := .array .long) (C := RX5) (T := TX5) (N := 18) hx hb hts zl_5 tyX5 tyX5_ok nmX5 hown hK hP hD hS 0 rfl rfl 16 (by decide) (hts _ zw_559) (fun _ h9 => h9) rfl hin rfl (by decide +kernel) rfl rfl (Nat.le_of_ble_eq_true rfl) dX5_init_81 (fun H locs hP hD hS => ?_)
  have hP : va_P D vwCl [(h0, .inr (5, [.ref q1, .ref q2, .ref q3, .int 0, .ref q4, .ref q5, .int 0, .int 0, .ref q6, .ref q7, .int 0, .int 0, .int 0, .int 0, .ref q8, .ref q9, .ref q10, .null])), (q1, .inl (cA 1, 32, .inl (fun _ => 0))), (q2, .inl (cA 1, 32, .inl (fun _ => 0))), (q3, .inl (cA 1, 256, .inl (fun _ => 0))), (q4, .inl (cA 1, 32, .inl (fun _ => 0))), (q5, .inl (cA 1, 256, .inl (fun _ => 0))), (q6, .inl (cA 1, 7, .inl (fun _ => 0))), (q7, .inl (cA 2, 80, .inl (fun _ => 0))), (q8, .inl (cA 1, 4, .inl (fun _ => 0))), (q9, .inl (cA 1, 4, .inl (fun _ => 0))), (q10, .inl (cA 3, 96, .inr (.inl (fun _ => 0))))] H := hP
  have hD : va_D A [(h0, .inr (5, [.ref q1, .ref q2, .ref q3, .int 0, .ref q4, .ref q5, .int 0, .int 0, .ref q6, .ref q7, .int 0, .int 0, .int 0, .int 0, .ref q8, .ref q9, .ref q10, .null])), (q1, .inl (cA 1, 32, .inl (fun _ => 0))), (q2, .inl (cA 1, 32, .inl (fun _ => 0))), (q3, .inl (cA 1, 256, .inl (fun _ => 0))), (q4, .inl (cA 1, 32, .inl (fun _ => 0))), (q5, .inl (cA 1, 256, .inl (fun _ => 0))), (q6, .inl (cA 1, 7, .inl (fun _ => 0))), (q7, .inl (cA 2, 80, .inl (fun _ => 0))), (q8, .inl (cA 1, 4, .inl (fun _ => 0))), (q9, .inl (cA 1, 4, .inl (fun _ => 0))), (q10, .inl (cA 3, 96, .inr (.inl (fun _ => 0))))] := hD
  refine lv_aload_n hx hb dX5_init_84 rfl (lv_at hl 0 rfl) ?_
  refine lv_bipush (v := (24)) hx hb dX5_init_85 (by decide) ?_
  refine zn_long (N' := 24) hx hb (hts _ zx_144) hK hP hD hS hA (by decide) (by decide) (by decide) (Nat.le_of_ble_eq_true rfl) (Nat.le_of_ble_eq_true rfl) dX5_init_87 (fun q11 H hP hD hS => ?_)
  have hP : va_P D vwCl [(h0, .inr (5, [.ref q1, .ref q2, .ref q3, .int 0, .ref q4, .ref q5, .int 0, .int 0, .ref q6, .ref q7, .int 0, .int 0, .int 0, .int 0, .ref q8, .ref q9, .ref q10, .null])), (q1, .inl (cA 1, 32, .inl (fun _ => 0))), (q2, .inl (cA 1, 32, .inl (fun _ => 0))), (q3, .inl (cA 1, 256, .inl (fun _ => 0))), (q4, .inl (cA 1, 32, .inl (fun _ => 0))), (q5, .inl (cA 1, 256, .inl (fun _ => 0))), (q6, .inl (cA 1, 7, .inl (fun _ => 0))), (q7, .inl (cA 2, 80, .inl (fun _ => 0))), (q8, .inl (cA 1, 4, .inl (fun _ => 0))), (q9, .inl (cA 1, 4, .inl (fun _ => 0))), (q10, .inl (cA 3, 96, .inr (.inl (fun _ => 0)))), (q11, .inl (cA 3, 24, .inr (.inl (fun _ => 0))))] H := hP
  have hD : va_D A [(h0, .inr (5, [.ref q1, .ref q2, .ref q3, .int 0, .ref q4, .ref q5, .int 0, .int 0, .ref q6, .ref q7, .int 0, .int 0, .int 0, .int 0, .ref q8, .ref q9, .ref q10, .null])), (q1, .inl (cA 1, 32, .inl (fun _ => 0))), (q2, .inl (cA 1, 32, .inl (fun _ => 0))), (q3, .inl (cA 1, 256, .inl (fun _ => 0))), (q4, .inl (cA 1, 32, .inl (fun _ => 0))), (q5, .inl (cA 1, 256, .inl (fun _ => 0))), (q6, .inl (cA 1, 7, .inl (fun _ => 0))), (q7, .inl (cA 2, 80, .inl (fun _ => 0))), (q8, .inl (cA 1, 4, .inl (fun _ => 0))), (q9, .inl (cA 1, 4, .inl (fun _ => 0))), (q10, .inl (cA 3, 96, .inr (.inl (fun _ => 0)))), (q11, .inl (cA 3, 24, .inr (.inl (fun _ => 0))))] := hD
  refine va_putF (D := D) (ci := 5) (v := .ref q11) (ty := .array .long) (C := RX5) (T := TX5) (N := 18) hx hb hts zl_5 tyX5 tyX5_ok nmX5 hown hK hP hD hS 0 rfl rfl 17 (by decide) (hts _ zw_560) (fun _ h9 => h9) rfl hin rfl (by decide +kernel) rfl rfl (Nat.le_of_ble_eq_true rfl) dX5_init_89 (fun H locs hP hD hS => ?_)
  have hP : va_P D vwCl [(h0, .inr (5, [.ref q1, .ref q2, .ref q3, .int 0, .ref q4, .ref q5, .int 0, .int 0, .ref q6, .ref q7, .int 0, .int 0, .int 0, .int 0, .ref q8, .ref q9, .ref q10, .ref q11])), (q1, .inl (cA 1, 32, .inl (fun _ => 0))), (q2, .inl (cA 1, 32, .inl (fun _ => 0))), (q3, .inl (cA 1, 256, .inl (fun _ => 0))), (q4, .inl (cA 1, 32, .inl (fun _ => 0))), (q5, .inl (cA 1, 256, .inl (fun _ => 0))), (q6, .inl (cA 1, 7, .inl (fun _ => 0))), (q7, .inl (cA 2, 80, .inl (fun _ => 0))), (q8, .inl (cA 1, 4, .inl (fun _ => 0))), (q9, .inl (cA 1, 4, .inl (fun _ => 0))), (q10, .inl (cA 3, 96, .inr (.inl (fun _ => 0)))), (q11, .inl (cA 3, 24, .inr (.inl (fun _ => 0))))] H := hP
  have hD : va_D A [(h0, .inr (5, [.ref q1, .ref q2, .ref q3, .int 0, .ref q4, .ref q5, .int 0, .int 0, .ref q6, .ref q7, .int 0, .int 0, .int 0, .int 0, .ref q8, .ref q9, .ref q10, .ref q11])), (q1, .inl (cA 1, 32, .inl (fun _ => 0))), (q2, .inl (cA 1, 32, .inl (fun _ => 0))), (q3, .inl (cA 1, 256, .inl (fun _ => 0))), (q4, .inl (cA 1, 32, .inl (fun _ => 0))), (q5, .inl (cA 1, 256, .inl (fun _ => 0))), (q6, .inl (cA 1, 7, .inl (fun _ => 0))), (q7, .inl (cA 2, 80, .inl (fun _ => 0))), (q8, .inl (cA 1, 4, .inl (fun _ => 0))), (q9, .inl (cA 1, 4, .inl (fun _ => 0))), (q10, .inl (cA 3, 96, .inr (.inl (fun _ => 0)))), (q11, .inl (cA 3, 24, .inr (.inl (fun _ => 0))))] := hD
  refine lv_aload_n hx hb dX5_init_92 rfl (lv_at hl 0 rfl) ?_
  refine va_get (D := D) (ci := 5) (v := .ref q1) (C := RX5) (T := TX5) (N := 18) hx hb hts zl_5 hown hK hP 0 rfl rfl 0 (by decide) (hts _ zw_543) (fun _ h9 => h9) rfl dX5_init_93 ?_
  refine lv_iconst (v := (3)) hx hb dX5_init_96 (by decide) ?_
  refine lv_iconst (v := (1)) hx hb dX5_init_97 (by decide) ?_
  refine va_iast (D := D) (tys := zn_ty cA) (i := 3) (x := 1) hx hb hK hP hD hS 1 0 rfl rfl (by unfold vp_in; decide) dX5_init_98 (fun H locs hP hD hS => ?_)
  have hP : va_P D vwCl [(h0, .inr (5, [.ref q1, .ref q2, .ref q3, .int 0, .ref q4, .ref q5, .int 0, .int 0, .ref q6, .ref q7, .int 0, .int 0, .int 0, .int 0, .ref q8, .ref q9, .ref q10, .ref q11])), (q1, .inl (cA 1, 32, .inl (upd (fun _ => 0) (Int32.toNatClampNeg 3) 1))), (q2, .inl (cA 1, 32, .inl (fun _ => 0))), (q3, .inl (cA 1, 256, .inl (fun _ => 0))), (q4, .inl (cA 1, 32, .inl (fun _ => 0))), (q5, .inl (cA 1, 256, .inl (fun _ => 0))), (q6, .inl (cA 1, 7, .inl (fun _ => 0))), (q7, .inl (cA 2, 80, .inl (fun _ => 0))), (q8, .inl (cA 1, 4, .inl (fun _ => 0))), (q9, .inl (cA 1, 4, .inl (fun _ => 0))), (q10, .inl (cA 3, 96, .inr (.inl (fun _ => 0)))), (q11, .inl (cA 3, 24, .inr (.inl (fun _ => 0))))] H := hP
  have hD : va_D A [(h0, .inr (5, [.ref q1, .ref q2, .ref q3, .int 0, .ref q4, .ref q5, .int 0, .int 0, .ref q6, .ref q7, .int 0, .int 0, .int 0, .int 0, .ref q8, .ref q9, .ref q10, .ref q11])), (q1, .inl (cA 1, 32, .inl (upd (fun _ => 0) (Int32.toNatClampNeg 3) 1))), (q2, .inl (cA 1, 32, .inl (fun _ => 0))), (q3, .inl (cA 1, 256, .inl (fun _ => 0))), (q4, .inl (cA 1, 32, .inl (fun _ => 0))), (q5, .inl (cA 1, 256, .inl (fun _ => 0))), (q6, .inl (cA 1, 7, .inl (fun _ => 0))), (q7, .inl (cA 2, 80, .inl (fun _ => 0))), (q8, .inl (cA 1, 4, .inl (fun _ => 0))), (q9, .inl (cA 1, 4, .inl (fun _ => 0))), (q10, .inl (cA 3, 96, .inr (.inl (fun _ => 0)))), (q11, .inl (cA 3, 24, .inr (.inl (fun _ => 0))))] := hD
  refine W.widen (k := 11) (n := 823) (Nat.le_of_ble_eq_true rfl) (Nat.le_of_ble_eq_true rfl) ?_
  exact W.vret hx hb hr (fun t ht hW => ⟨⟨_, rfl, ⟨q1, q2, q3, q4, q5, q6, q7, q8, q9, q10, q11, rfl⟩, by rw [ht]; exact hP, va_K.moved hW.alike hK, hD⟩, hS.F ht⟩) hS.2.2 dX5_init_99
