/-! THE CLAIM OUT OF ONE WALK OF THE LAW'S BODY. Your part is whole_start (and what it stands on); all else here is the same for every law, but numbers. -/
def R_law : String := "LongestWedLaw"
def lw_P (b : Addr) (xs : List Int32) (args : Array Value) (s : State) : Prop := args = #[.ref b] ∧ s.IntsAt b xs ∧ xs.length ≤ 3584 ∧ (Jvm.Cond.and given_1 narrow_1).before args s = true
def lw_Q (_ : Array Value) (s : State) (o : Outcome) (t : State) : Prop := o = .returned (some (.int 1)) ∧ Framed s o t [] 600000 7302250
def lw_Z (below : List Frame) (a : Array Value) (s : State) : State → Prop := fun t => ∃ o, t.status = .running ∧ Ended t below o ∧ lw_Q a s o t
/-- the law's own end, with 1 on the stack, nothing written that was there before, its room as the claim has it -/
theorem lw_ret {p : Program} {l : Launch} {e : Env} {s : State} {m : MethodId} {below : List Frame} {meth : Method} {c : Code} {b : Nat} (hx : p.tables.exec = Jvm.exec) (hb : c.code = code) (hr : meth.sig.returnType = ret) (hlocks : meth.locks = false) {pc : Nat} {H : Heap} {ls : Array Slot} (hdg : decode code pc = .ok (.ireturn, 1)) : W p l e room_1 s m #[Value.ref b] below meth c H [] 600000 7302250 (lw_Z below #[Value.ref b] s) (F0 m pc ls [.int 1]) := by
  intro T hT X
  obtain ⟨fs, hret, hrun, hended, hW, hframe⟩ := X.leave (v := some (.int 1)) (hlocks := hlocks) (fun h => by rw [hr] at h; cases h)
  have hmeth' : T.vm.method? m = some meth := X.method'
  refine ⟨T.setFrames fs, ?_, .returned (some (.int 1)), hrun, hended, rfl, ⟨_, rfl⟩, hW, hframe⟩
  jvm_step X.here [X.here.top, hx, hb, hdg, hmeth', hr, ret, narrow_b1]
  (try refine ⟨rfl, ?_⟩); (try refine ⟨rfl, ?_⟩)
  first | (intro acts; rw [hret _ acts rfl rfl rfl]) | rw [hret _ _ rfl rfl rfl]
  exact Steps.refl _
/-- what holds at the law's entry: the machine, the code, the tables' words (any of lw_tbl by 'hts w (by decide +kernel)'), the script of L ints xs at the cell b, what the Statement gives of the start (any of its parts by flat_of_before) -/
def lw_At (p : Program) (s : State) (m : MethodId) (meth : Method) (c : Code) (b L : Nat) (xs : Nat → Int32) : Prop :=
  p.tables.exec = Jvm.exec ∧ c.code = code ∧ meth.sig.returnType = ret ∧ c.maxLocals = 4 ∧ s.vm.findClass R_law = some m.cls ∧ (∀ w ∈ lw_tbl, w.before #[Value.ref b] s = true) ∧ va_X b L xs s s.heap ∧ b < s.heap.size ∧ meth.locks = false ∧ (Jvm.Cond.and given_1 narrow_1).before #[Value.ref b] s = true
section ZLA
variable {p : Program} {l : Launch} {e : Env} {R : Room} {s : State} {m : MethodId} {args : Array Value} {below : List Frame} {meth : Method} {c : Code} {H : Heap} {locs : List Loc} {cells slots : Nat} {Q : State → Prop}
variable {cc : ByteArray} {pc nL : Nat} {ls : Array Slot} {own : String}
/-- a call of one object's method, the other object's world beside it -/
theorem zl_call {E E2 : ZE} {μ μ2 : ZM} {A0 : Nat → Prop} {H0 : Heap} {idx n nL1 ci k : Nat} {y : MethodName} {cc1 : ByteArray} {ret1 : Option FieldType} {rm1 : Room} {G : List ZV → ZM → Option (Int32 × ZM)} {r : Int32 × ZM} (As : List ZV) {st rest : List Value}
    (hx : p.tables.exec = Jvm.exec) (hb : c.code = cc) (hml : c.maxLocals = nL) (hls : ls.size = nL) (hown : s.vm.findClass own = some m.cls) (hts : ∀ w ∈ zk_T, w.before args s = true) (hK : zk_K E s) (hW : zk_W E μ H) (hW2 : zk_W E2 μ2 H) (hS : va_S A0 H0 H locs) (hEA : ∀ q, E.2.2.2.2 q → A0 q) (hdis : ∀ q, E2.2.2.2.2 q → ¬ E.2.2.2.2 q)
    (M : zk_MV y cc1 nL1 ret1 rm1 zq_I G n ci) (hG : G (.inr (.inr (ci, k)) :: As) μ = some r) (hok : zk_okB E.2.2.2.1 = true) (hk : E.2.2.2.1[k]? = some ci) (hAs : ∀ v ∈ As, zk_w E v) (hn : As.length = n) (h1 : Cond.methodLink own idx y ∈ zk_T) (hR : rm1.frames + 1 ≤ R.frames ∧ 8 + (nL1 + 11) + rm1.locals ≤ R.locals) (hcs : cells ≤ R.cells ∧ slots ≤ R.slots)
    (hst : st = (As.map (zk_c E.1)).reverse ++ .ref (E.1 k) :: rest) (hrest : (rest.map fun v => v.category).sum ≤ 8) (hd : decode cc pc = .ok (.invokevirtual idx, 3))
    (kk : ∀ (H1 : Heap) (locs1 : List Loc), zk_W E r.2 H1 → zk_W E2 μ2 H1 → va_S A0 H0 H1 locs1 → W p l e R s m args below meth c H1 locs1 cells slots Q (F0 m (pc + 3) ls (.int r.1 :: rest))) : W p l e R s m args below meth c H locs cells slots Q (F0 m pc ls st) := by
  obtain ⟨m1, m2, m3, m4, m5, m6, m7, m8, m9, ⟨T, N, m10⟩, m11⟩ := M
  have hwa : ∀ v ∈ (.inr (.inr (ci, k)) :: As : List ZV), zk_w E v := zk_wcons hk hAs
  have hMet := m1 l E _ μ r hG hok hwa
  have he := zk_at μ hk
  rw [zk_Eo m9] at he
  have run := va_runV (locs := locs) (cells := cells) (slots := slots) (below := below) (meth := meth) (e := e) (n := n) (C := y.cls) (b := E.1 k) (As := As.map (zk_c E.1)) (rest := rest) (g := F0 m pc ls st) ⟨hx, hb, hml, hown, hts⟩ hMet ⟨callB_of n hts (zk_good m2) rfl m6 m7 (hts _ m5) (hts _ h1) m8 hR, hts _ m3, hts _ m4⟩ ⟨zk_blind, va_recv hK hW.1 m10 he, fun U hU hWm => ⟨rfl, by rw [hU]; exact hW, va_K.moved hWm.alike hK⟩⟩ rfl (by simp [hn]) hls hst (lv_room hrest) hd hcs
  intro T1 hT X
  obtain ⟨v, st₀, t, T', L, h0, X', hL, e1, e2, ⟨hv, ⟨hb1, -⟩, hz, hk1⟩, stp⟩ := run T1 hT X
  obtain rfl : v = some (.int r.1) := by injection hv
  rw [h0] at hz hk1
  obtain ⟨t2, a1, b1⟩ := kk T'.heap (locs ++ L) (by rw [e1]; exact hb1) ⟨hW2.1.kept (fun j q hj => by rw [e1]; exact hk1 q.1 (hW2.1 j q hj).lt (hdis q.1 (hW2.2.2 j q hj))), hW2.2⟩
    ⟨Nat.le_trans hS.1 (by rw [e1]; exact hz), fun q h1 h2 => by rw [e1, hk1 q (Nat.lt_of_lt_of_le h1 hS.1) (fun z => h2 (hEA q z))]; exact hS.2.1 q h1 h2, fun q hq => by
      rcases List.mem_append.mp hq with h | h
      · exact hS.2.2 q h
      · exact hEA _ (hL q h)⟩ T' rfl X'
  exact ⟨t2, stp t2 a1, b1⟩
end ZLA
def zl_ok (Rel : ZM → ZM → Prop) (f g : ZM → Option (Int32 × ZM)) : Prop := ∀ μ ν, Rel μ ν → ∃ v μ' ν', f μ = some (v, μ') ∧ g ν = some (v, ν') ∧ Rel μ' ν'
/-- every call: both objects answer alike, and stay alike -/
def zl_all (N : Nat) (Rel : ZM → ZM → Prop) : Prop := (∀ (a : Int32) (b : Int32), zl_ok Rel (f_X4_couple N 0 a b) (f_X5_couple N 0 a b)) ∧ (∀ (a : Int32) (b : Int32), zl_ok Rel (f_X4_of N 0 a b) (f_X5_of N 0 a b)) ∧ (∀ (a : Int32), zl_ok Rel (f_X4_type N 0 a) (f_X5_type N 0 a)) ∧ (zl_ok Rel (f_X4_town N 0) (f_X5_town N 0)) ∧ (∀ (a : Int32), zl_ok Rel (f_X4_count N 0 a) (f_X5_count N 0 a)) ∧ (∀ (a : Int32), zl_ok Rel (f_X4_years N 0 a) (f_X5_years N 0 a)) ∧ (∀ (a : Int32) (b : Int32), zl_ok Rel (f_X4_nurse N 0 a b) (f_X5_nurse N 0 a b)) ∧ (∀ (a : Int32) (b : Int32), zl_ok Rel (f_X4_stir N 0 a b) (f_X5_stir N 0 a b)) ∧ (∀ (a : Int32), zl_ok Rel (f_X4_wed N 0 a) (f_X5_wed N 0 a)) ∧ (∀ (a : Int32), zl_ok Rel (f_X4_drift N 0 a) (f_X5_drift N 0 a)) ∧ (zl_ok Rel (f_X4_undo N 0) (f_X5_undo N 0)) ∧ (∀ (a : Int32), zl_ok Rel (f_X4_seed N 0 a) (f_X5_seed N 0 a)) ∧ (∀ (a : Int32), zl_ok Rel (f_X4_keys N 0 a) (f_X5_keys N 0 a)) ∧ (∀ (a : Int32) (b : Int32), zl_ok Rel (f_X4_ahead N 0 a b) (f_X5_ahead N 0 a b)) ∧ (∀ (a : Int32), zl_ok Rel (f_X4_then N 0 a) (f_X5_then N 0 a)) ∧ (∀ (a : Int32) (b : Int32), zl_ok Rel (f_X4_rises N 0 a b) (f_X5_rises N 0 a b)) ∧ (∀ (a : Int32), zl_ok Rel (f_X4_parts N 0 a) (f_X5_parts N 0 a)) ∧ (zl_ok Rel (f_X4_ever N 0) (f_X5_ever N 0)) ∧ (∀ (a : Int32) (b : Int32) (c : Int32), zl_ok Rel (f_X4_rivals N 0 a b c) (f_X5_rivals N 0 a b c)) ∧ (∀ (a : Int32) (b : Int32), zl_ok Rel (f_X4_needs N 0 a b) (f_X5_needs N 0 a b)) ∧ (∀ (a : Int32) (b : Int32), zl_ok Rel (f_X4_soothe N 0 a b) (f_X5_soothe N 0 a b)) ∧ (∀ (a : Int32), zl_ok Rel (f_X4_start N 0 a) (f_X5_start N 0 a)) ∧ (∀ (a : Int32), zl_ok Rel (f_X4_sum N 0 a) (f_X5_sum N 0 a)) ∧ (∀ (a : Int32) (b : Int32) (c : Int32), zl_ok Rel (f_X4_rows N 0 a b c) (f_X5_rows N 0 a b c)) ∧ (zl_ok Rel (f_X4_image N 0) (f_X5_image N 0)) ∧ (zl_ok Rel (f_X4_restore N 0) (f_X5_restore N 0)) ∧ (∀ (a : Int32) (b : Int32) (c : Int32) (d : Int32) (e : Int32) (f : Int32), zl_ok Rel (f_X4_heard N 0 a b c d e f) (f_X5_heard N 0 a b c d e f)) ∧ (∀ (a : Int32) (b : Int32) (c : Int32) (d : Int32) (e : Int32), zl_ok Rel (f_X4_film N 0 a b c d e) (f_X5_film N 0 a b c d e)) ∧ (∀ (a : Int32) (b : Int32) (c : Int32), zl_ok Rel (f_X4_sheet N 0 a b c) (f_X5_sheet N 0 a b c)) ∧ (∀ (a : Int32), zl_ok Rel (f_X4_drop N 0 a) (f_X5_drop N 0 a)) ∧ (∀ (a : Int32) (b : Int32) (c : Int32) (d : Int64), zl_ok Rel (f_X4_item N 0 a b c d) (f_X5_item N 0 a b c d)) ∧ (∀ (a : Int32) (b : Int32) (c : Int32) (d : Int32) (e : Int32), zl_ok Rel (f_X4_copy N 0 a b c d e) (f_X5_copy N 0 a b c d e))
