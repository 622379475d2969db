-- MAKING: rows for what constructors do, over worlds as lists
def zn_ty (cA : Nat → ClassId) : List (ClassId × FieldType) := [(cA 1, .int), (cA 2, .byte), (cA 3, .long), (cA 4, .object RX3), (cA 5, .object RX1)]
/-- the words that a callee isn't handed: links between mates of a nest, rows over own kinds -/
def zn_Z (U : State) : Prop := va_Nw (.methodLinkNest RX0 24 yX3_init RX4) U ∧ va_Nw (.methodLinkNest RX4 9 yX3_init RX4) U ∧ va_Nw (.methodLinkNest RX4 31 yX2_init RX4) U ∧ va_Nw (.methodLinkNest RX4 49 yX1_init RX4) U ∧ va_AO RX3 U ∧ va_AO RX1 U
theorem zn_Z.warm {s U : State} (hW : s.WarmedH U.vm) (h : zn_Z s) : zn_Z U := ⟨h.1.warmM hW, h.2.1.warmM hW, h.2.2.1.warmM hW, h.2.2.2.1.warmM hW, h.2.2.2.2.1.moved hW.alike, h.2.2.2.2.2.moved hW.alike⟩
theorem zn_Z.call {U : State} {g : JFrame} {mk : MethodId} {a : Array Value} (h : zn_Z U) : zn_Z (U.calling g mk a) := ⟨h.1.same rfl rfl, h.2.1.same rfl rfl, h.2.2.1.same rfl rfl, h.2.2.2.1.same rfl rfl, h.2.2.2.2.1.moved (Vm.Alike.refl U.vm), h.2.2.2.2.2.moved (Vm.Alike.refl U.vm)⟩
/-- what a constructor finds -/
def zn_B (D : va_G) (cA : Nat → ClassId) (a sz ci : Nat) (fs : List Value) : State → Prop := fun U => U.heap.size = sz ∧ va_P D vwCl [(a, .inr (ci, fs))] U.heap ∧ va_K D vwCl (zn_ty cA) U ∧ va_D (fun _ => True) [(a, .inr (ci, fs))] ∧ zn_Z U
def zn_C (y : MethodName) (cc : ByteArray) (nL : Nat) (rm : Room) (mc ms ci : Nat) (fs : List Value) (PW : (Nat → ClassId) → Nat → va_W → Prop) : Prop := ∀ (l : Launch) (D : va_G) (cA : Nat → ClassId) (a sz : Nat),
  Met l y (.code y cc nL none :: zk_T) rm (va_Pc [.ref a] (zn_B D cA a sz ci fs)) (va_Qv (PW cA a) (fun w1 t => va_P D vwCl w1 t.heap ∧ va_K D vwCl (zn_ty cA) t ∧ va_D (va_A [(a, .inr (ci, fs))] sz) w1) (va_A [(a, .inr (ci, fs))] sz)) mc ms (va_A [(a, .inr (ci, fs))] sz)
theorem zn_blind {D : va_G} {cA : Nat → ClassId} {a sz ci : Nat} {fs : List Value} : FrameBlind (va_Pc [.ref a] (zn_B D cA a sz ci fs)) := fun b U g mk h => ⟨h.1, h.2.1, h.2.2.1, va_K.moved (u := U) (U := U.calling g mk b) (Vm.Alike.refl U.vm) h.2.2.2.1, h.2.2.2.2.1, h.2.2.2.2.2.call⟩
theorem zn_rg {α : Type} (ws : List α) (x : α) : (List.range ws.length).map (fun i => (ws ++ [x])[i]?) = ws.map some := by
  apply List.ext_getElem?
  intro i
  by_cases h : i < ws.length
  · simp [h, List.getElem?_append_left h]
  · simp [h]
theorem zn_nd : ∀ (l : List Nat), l.Nodup → va_nd l = true
  | [], _ => rfl
  | a :: l, h => by
    simp only [va_nd, Bool.and_eq_true, decide_eq_true_eq]
    exact ⟨(List.nodup_cons.mp h).1, zn_nd l (List.nodup_cons.mp h).2⟩
theorem zn_uniq {s : State} {D : va_G} {tys : List (ClassId × FieldType)} {cA c1 : ClassId} {ty : FieldType} {t0 : Nat} (hK : va_K D vwCl (tys ++ [(cA, ty)]) s) (ht : tys[t0]? = some (c1, ty)) : cA = c1 := by
  have h1 := (hK.2 tys.length (cA, ty) (by simp)).2
  have h2 := (hK.2 t0 (c1, ty) (by rw [List.getElem?_append_left (List.getElem?_eq_some_iff.mp ht).1]; exact ht)).2
  cases ty with
  | object C =>
    obtain ⟨_, _, _, _, _, e1⟩ := h1
    obtain ⟨_, _, _, _, _, e2⟩ := h2
    exact Option.some.inj (e1.symm.trans e2)
  | _ => exact Option.some.inj (Eq.trans (Eq.symm h1) h2)
section ZN
variable {p : Program} {l : Launch} {e : Env} {R : Room} {s : State} {m : MethodId} {args : Array Value} {below : List Frame} {meth : Method} {c : Code} {H : Heap} {locs : List Loc} {cells slots : Nat} {Q : State → Prop}
variable {cc : ByteArray} {pc : Nat} {ls : Array Slot} {rest : List Value} {D : va_G} {A : Nat → Prop} {ws : va_W} {H0 : Heap} {cA : Nat → ClassId}
theorem zn_int {n : Int32} {N' : Nat} (hx : p.tables.exec = Jvm.exec) (hb : c.code = cc) (harr : (Cond.arrayClass .int).before args s = true) (hK : va_K D vwCl (zn_ty cA) s) (hP : va_P D vwCl ws H) (hD : va_D A ws) (hS : va_S A H0 H locs) (hA : ∀ q, H0.size ≤ q → A q) (hn : ¬ n < 0) (hN : n.toNatClampNeg = N') (hbytes : N' * 4 ≤ 536870912) (hcells : cells + 1 ≤ R.cells) (hslots : slots + N' ≤ R.slots) (hdg : decode cc pc = .ok (.newarray .int, 2))
    (kk : ∀ (q : Nat) (H1 : Heap), va_P D vwCl (ws ++ [(q, .inl (cA 1, N', .inl (fun _ => 0)))]) H1 → va_D A (ws ++ [(q, .inl (cA 1, N', .inl (fun _ => 0)))]) → va_S A H0 H1 locs → W p l e R s m args below meth c H1 locs (cells + 1) (slots + N') Q (F0 m (pc + 2) ls (.ref q :: rest))) : W p l e R s m args below meth c H locs cells slots Q (F0 m pc ls (.int n :: rest)) := by
  refine va_newa (atype := .int) (ty := .int) (a0 := (N', .inl (fun _ => 0))) hx hb harr rfl hK hP hD hS hA (fun cA => rfl) hn hN hbytes hcells hslots hdg (fun q cB H1 hK1 hP1 hD1 hS1 => ?_)
  obtain rfl := zn_uniq (t0 := 0) hK1 rfl
  exact kk q H1 hP1 hD1 hS1
theorem zn_byte {n : Int32} {N' : Nat} (hx : p.tables.exec = Jvm.exec) (hb : c.code = cc) (harr : (Cond.arrayClass .byte).before args s = true) (hK : va_K D vwCl (zn_ty cA) s) (hP : va_P D vwCl ws H) (hD : va_D A ws) (hS : va_S A H0 H locs) (hA : ∀ q, H0.size ≤ q → A q) (hn : ¬ n < 0) (hN : n.toNatClampNeg = N') (hbytes : N' * 1 ≤ 536870912) (hcells : cells + 1 ≤ R.cells) (hslots : slots + N' ≤ R.slots) (hdg : decode cc pc = .ok (.newarray .byte, 2))
    (kk : ∀ (q : Nat) (H1 : Heap), va_P D vwCl (ws ++ [(q, .inl (cA 2, N', .inl (fun _ => 0)))]) H1 → va_D A (ws ++ [(q, .inl (cA 2, N', .inl (fun _ => 0)))]) → va_S A H0 H1 locs → W p l e R s m args below meth c H1 locs (cells + 1) (slots + N') Q (F0 m (pc + 2) ls (.ref q :: rest))) : W p l e R s m args below meth c H locs cells slots Q (F0 m pc ls (.int n :: rest)) := by
  refine va_newa (atype := .byte) (ty := .byte) (a0 := (N', .inl (fun _ => 0))) hx hb harr rfl hK hP hD hS hA (fun cA => rfl) hn hN hbytes hcells hslots hdg (fun q cB H1 hK1 hP1 hD1 hS1 => ?_)
  obtain rfl := zn_uniq (t0 := 1) hK1 rfl
  exact kk q H1 hP1 hD1 hS1
theorem zn_long {n : Int32} {N' : Nat} (hx : p.tables.exec = Jvm.exec) (hb : c.code = cc) (harr : (Cond.arrayClass .long).before args s = true) (hK : va_K D vwCl (zn_ty cA) s) (hP : va_P D vwCl ws H) (hD : va_D A ws) (hS : va_S A H0 H locs) (hA : ∀ q, H0.size ≤ q → A q) (hn : ¬ n < 0) (hN : n.toNatClampNeg = N') (hbytes : N' * 8 ≤ 536870912) (hcells : cells + 1 ≤ R.cells) (hslots : slots + N' ≤ R.slots) (hdg : decode cc pc = .ok (.newarray .long, 2))
    (kk : ∀ (q : Nat) (H1 : Heap), va_P D vwCl (ws ++ [(q, .inl (cA 3, N', .inr (.inl (fun _ => 0))))]) H1 → va_D A (ws ++ [(q, .inl (cA 3, N', .inr (.inl (fun _ => 0))))]) → va_S A H0 H1 locs → W p l e R s m args below meth c H1 locs (cells + 1) (slots + N') Q (F0 m (pc + 2) ls (.ref q :: rest))) : W p l e R s m args below meth c H locs cells slots Q (F0 m pc ls (.int n :: rest)) := by
  refine va_newa (atype := .long) (ty := .long) (a0 := (N', .inr (.inl (fun _ => 0)))) hx hb harr rfl hK hP hD hS hA (fun cA => rfl) hn hN hbytes hcells hslots hdg (fun q cB H1 hK1 hP1 hD1 hS1 => ?_)
  obtain rfl := zn_uniq (t0 := 2) hK1 rfl
  exact kk q H1 hP1 hD1 hS1
theorem zn_row {n : Int32} {N' k t0 idx : Nat} {own C : String} (hx : p.tables.exec = Jvm.exec) (hb : c.code = cc) (hown : s.vm.findClass own = some m.cls) (hcl : (Cond.classLink own idx C).before args s = true) (hov : va_AO C s) (ht : (zn_ty cA)[t0]? = some (cA k, .object C)) (hK : va_K D vwCl (zn_ty cA) s) (hP : va_P D vwCl ws H) (hD : va_D A ws) (hS : va_S A H0 H locs) (hA : ∀ q, H0.size ≤ q → A q) (hn : ¬ n < 0) (hN : n.toNatClampNeg = N') (hbytes : N' * 4 ≤ 536870912) (hcells : cells + 1 ≤ R.cells) (hslots : slots + N' ≤ R.slots) (hdg : decode cc pc = .ok (.anewarray idx, 3))
    (kk : ∀ (q : Nat) (H1 : Heap), va_P D vwCl (ws ++ [(q, .inl (cA k, N', .inr (.inr (.inr (.inr (fun _ => none))))))]) H1 → va_D A (ws ++ [(q, .inl (cA k, N', .inr (.inr (.inr (.inr (fun _ => none))))))]) → va_S A H0 H1 locs → W p l e R s m args below meth c H1 locs (cells + 1) (slots + N') Q (F0 m (pc + 3) ls (.ref q :: rest))) : W p l e R s m args below meth c H locs cells slots Q (F0 m pc ls (.int n :: rest)) := by
  refine va_newq hx hb hown hcl hov hK hP hD hS hA hn hN hbytes hcells hslots hdg (fun q cB H1 hK1 hP1 hD1 hS1 => ?_)
  obtain rfl := zn_uniq hK1 ht
  exact kk q H1 hP1 hD1 hS1
/-- new, dup, <init>: the new cells stand behind the world; I: how the call is linked -/
theorem zn_ni {own C : String} {T : u_T} {N ci idx idx2 nL nL1 mc ms : Nat} {ty : Nat → FieldType} {fs : List Value} {y : MethodName} {cc1 : ByteArray} {rm1 : Room} {PW : (Nat → ClassId) → Nat → va_W → Prop}
    (hx : p.tables.exec = Jvm.exec) (hb : c.code = cc) (hml : c.maxLocals = nL) (hls : ls.size = nL) (hown : s.vm.findClass own = some m.cls) (hts : ∀ w ∈ zk_T, w.before args s = true) (hZ : zn_Z s) (hK : va_K D vwCl (zn_ty cA) s) (hP : va_P D vwCl ws H) (hD : va_D A ws) (hS : va_S A H0 H locs) (hA : ∀ q, H0.size ≤ q → A q)
    (hin : ∀ w ∈ u_ws C T N, w ∈ zk_T) (hty : ∀ k, k < N → parseFieldDescriptor (T k).2.2.1 = some (ty k)) (hc : vwCl[ci]? = some (C, T, N)) (hfs : ∀ j, j < N → defaultValue (ty j) = vp_V fs j)
    (w1 : Cond.classLink own idx C ∈ zk_T) (w2 : Cond.instantiable C N ∈ zk_T) (w3 : Cond.initialized C ∈ zk_T) (hM : zn_C y cc1 nL1 rm1 mc ms ci fs PW)
    (w4 : Cond.code y cc1 nL1 none ∈ zk_T) (w5 : Cond.instanceMethod y ∈ zk_T) (w6 : Cond.methodLink own idx2 y ∈ zk_T ∨ va_Nw (.methodLinkNest own idx2 y RX4) s) (hyc : y.cls = C) (hyn : y.name = "<init>") (hyd : y.cls ≠ "java/lang/invoke/MethodHandle" ∧ y.cls ≠ "java/lang/invoke/VarHandle" ∧ (parseMethodDescriptor y.desc).map (fun d => d.parameters.length) = some 0)
    (hrc : rm1.cells = mc) (hrs : rm1.slots = ms) (hR : rm1.frames + 1 ≤ R.frames ∧ 8 + (nL1 + 11) + rm1.locals ≤ R.locals) (hcells : cells + 1 + mc ≤ R.cells) (hslots : slots + N + ms ≤ R.slots) (hrest : (rest.map fun v => v.category).sum ≤ 7)
    (d0 : decode cc pc = .ok (.new idx, 3)) (d1 : decode cc (pc + 3) = .ok (.dup, 1)) (d2 : decode cc (pc + 4) = .ok (.invokespecial idx2, 3))
    (kk : ∀ (q : Nat) (w : va_W) (H1 : Heap) (locs1 : List Loc), PW cA q w → va_P D vwCl (ws ++ w) H1 → va_D A (ws ++ w) → va_S A H0 H1 locs1 → W p l e R s m args below meth c H1 locs1 (cells + 1 + mc) (slots + N + ms) Q (F0 m (pc + 7) ls (.ref q :: rest))) : W p l e R s m args below meth c H locs cells slots Q (F0 m pc ls rest) := by
  refine va_new (ci := ci) (fs := fs) (C := C) (T := T) (N := N) hx hb hts hin ty hty hown (hts _ w1) (hts _ w2) (hts _ w3) hK hP hD hS hA hc hfs (by omega) (by omega) d0 (fun q H1 hP1 hD1 hS1 => ?_)
  refine lv_dup hx hb d1 rfl ?_
  have hPc := hP1.sub (ws' := [(q, .inr (ci, fs))]) [ws.length] (by simp)
  have hDc := hD1.sub (ws' := [(q, .inr (ci, fs))]) [ws.length] rfl (by simp)
  have hFc := va_free (wc := [(q, .inr (ci, fs))]) hD1 hS1 hA [ws.length] (by simp)
  have hpre : PreS s H1 (va_Pc [.ref q] (zn_B D cA q H1.size ci fs)) [.ref q] := ⟨zn_blind, fun U hU hWm => ⟨rfl, by rw [hU], by rw [hU]; exact hPc, va_K.moved hWm.alike hK, hDc.weaken (fun _ _ _ _ => trivial), hZ.warm hWm⟩⟩
  have hrm : 2 * (F0 m (pc + 4) ls (Value.ref q :: Value.ref q :: rest)).monitorRoom + ((Value.ref q :: rest).map fun v => v.category).sum ≤ 8 := lv_room (by rw [List.map_cons, List.sum_cons]; show 1 + _ ≤ 8; omega)
  have hini : (Cond.initialized y.cls).before args s = true := by rw [hyc]; exact hts _ w3
  have run : va_Run p l e R s m args below meth c H1 locs (cells + 1) (slots + N) mc ms (F0 m (pc + 4) ls (.ref q :: .ref q :: rest)) (.ref q :: rest) (va_Qv (PW cA q) (fun w1 t => va_P D vwCl w1 t.heap ∧ va_K D vwCl (zn_ty cA) t ∧ va_D (va_A [(q, .inr (ci, fs))] H1.size) w1) (va_A [(q, .inr (ci, fs))] H1.size) [Value.ref q].toArray) (va_A [(q, .inr (ci, fs))] H1.size) := by
    rcases w6 with w6 | w6
    · exact va_runI (As := []) (n := 0) (rest := .ref q :: rest) ⟨hx, hb, hml, hown, hts⟩ (hM l D cA q H1.size) ⟨callB_of 0 hts (zk_good w4) rfl hrc hrs hini (hts _ w6) hyd hR, hyn, hts _ w5⟩ hpre rfl rfl hls rfl hrm d2 ⟨by omega, by omega⟩
    · exact va_runIN (As := []) (n := 0) (rest := .ref q :: rest) ⟨hx, hb, hml, hown, hts⟩ (hM l D cA q H1.size) ⟨va_cnB 0 hts (zk_good w4) rfl hrc hrs w6 hini hyd hR, hyn, hts _ w5⟩ hpre rfl rfl hls rfl hrm d2 ⟨by omega, by omega⟩
  refine va_callv run hS1 (fun x _ h => hFc x h) hFc (fun w t H2 locs2 ht hvm hw hB hz1 hk1 hS2 => ?_)
  obtain ⟨hP2, hK2, hD2⟩ := hB
  rw [ht] at hP2
  obtain ⟨hP3, hD3⟩ := va_join (wr := ws) (w1 := w) hP1 hD1 [ws.length] (List.range ws.length) (by simp) (zn_rg ws _) (zn_nd _ List.nodup_range) (fun i hi hi2 => by
    have h1 := List.mem_range.mp hi
    rw [List.mem_singleton.mp hi2] at h1
    exact Nat.lt_irrefl _ h1) hk1 hFc hP2 hD2
  exact kk q w H2 locs2 hw hP3 hD3 hS2
end ZN
