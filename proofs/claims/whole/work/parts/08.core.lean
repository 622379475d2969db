-- MACHINE LAYER: values, memory, world of one object of fixed shape; continuations; what it is that a continuation is right at a pc
abbrev ZV : Type := Int32 ⊕ (Int64 ⊕ (Nat × Nat))
abbrev ZM : Type := (Nat → Nat → Int32) × (Nat → Nat → Int64)
abbrev ZR : Type := Option ZV × ZM
abbrev ZL : Type := List (Option ZV)
abbrev ZK (ρ : Type) : Type := ZL → List ZV → ZM → Option ρ
/-- program, launch, env, room, start state, method id, args, frames below, method, code -/
abbrev ZX : Type := Program × Launch × Env × Room × State × MethodId × Array Value × List Frame × Method × Code
/-- addresses of the cells, the tables' numbers, array classes, kinds of the cells, what may change -/
abbrev ZE : Type := (Nat → Nat) × va_G × (Nat → ClassId) × List Nat × (Nat → Prop)
/-- fields of a class in their order: none: a number; some (kind, how far behind the object's own cell) -/
def zk_fl (kd : Nat) : List (Option (Nat × Nat)) := match kd with
  | 0 => [some (4008, 1), none, none]
  | 1 => [some (3024, 1), none, none]
  | 2 => [some (1080, 1), none, none, none]
  | 3 => [some (1007, 1), some (1007, 2), some (1007, 3), some (1007, 4), none, none, none, none]
  | 4 => [some (3, 1), some (0, 6), some (3, 48), some (0, 53), some (2, 95), some (5004, 97), some (3, 98), none]
  | 5 => [some (1032, 1), some (1032, 2), some (1256, 3), none, some (1032, 4), some (1256, 5), none, none, some (1007, 6), some (2080, 7), none, none, none, none, some (1004, 8), some (1004, 9), some (3096, 10), some (3024, 11)]
  | _ => []
def zk_c (ad : Nat → Nat) : ZV → Value
  | .inl x => .int x
  | .inr (.inl y) => .long y
  | .inr (.inr q) => .ref (ad q.2)
def zk_f1 (ad : Nat → Nat) (μ : ZM) (k j : Nat) (o : Option (Nat × Nat)) : Value := match o with
  | none => .int (μ.1 k j)
  | some q => .ref (ad (k + q.2))
def zk_fs (ad : Nat → Nat) (μ : ZM) (k kd : Nat) : List Value := (zk_fl kd).mapIdx (fun j o => zk_f1 ad μ k j o)
def zk_E (E : ZE) (μ : ZM) (k kd : Nat) : va_E :=
  if kd < 1000 then .inr (kd, zk_fs E.1 μ k kd)
  else if kd < 2000 then .inl (E.2.2.1 1, kd - 1000, .inl (μ.1 k))
  else if kd < 3000 then .inl (E.2.2.1 2, kd - 2000, .inl (μ.1 k))
  else if kd < 4000 then .inl (E.2.2.1 3, kd - 3000, .inr (.inl (μ.2 k)))
  else if kd < 5000 then .inl (E.2.2.1 4, kd - 4000, .inr (.inr (.inr (.inr (fun i => if i < 8 then some (E.1 (k + 1 + 5 * i)) else none)))))
  else .inl (E.2.2.1 5, kd - 5000, .inr (.inr (.inr (.inr (fun i => if i < 4 then some (E.1 (k + 6 + 2 * i)) else none)))))
def zk_ws (E : ZE) (μ : ZM) : va_W := E.2.2.2.1.mapIdx (fun k kd => (E.1 k, zk_E E μ k kd))
def zk_ty (E : ZE) : List (ClassId × FieldType) := [(E.2.2.1 1, .int), (E.2.2.1 2, .byte), (E.2.2.1 3, .long), (E.2.2.1 4, .object RX3), (E.2.2.1 5, .object RX1)]
def zk_W (E : ZE) (μ : ZM) (H : Heap) : Prop := va_P E.2.1 vwCl (zk_ws E μ) H ∧ va_D E.2.2.2.2 (zk_ws E μ)
def zk_K (E : ZE) (U : State) : Prop := va_K E.2.1 vwCl (zk_ty E) U
def zk_w (E : ZE) (v : ZV) : Prop := match v with
  | .inr (.inr q) => E.2.2.2.1[q.2]? = some q.1
  | _ => True
/-- the shape is closed: what fields and rows of references name is there, of its kind -/
def zk_okB (shp : List Nat) : Bool := (List.range shp.length).all fun k => match shp[k]? with
  | none => true
  | some kd => ((zk_fl kd).all fun o => match o with
    | none => true
    | some q => shp[k + q.2]? == some q.1) && (kd != 4008 || (List.range 8).all fun i => shp[k + 1 + 5 * i]? == some 3) && (kd != 5004 || (List.range 4).all fun i => shp[k + 6 + 2 * i]? == some 1)
def zk_T : List Cond := lw_tbl.filter goodWord
theorem zk_mem (i : Nat) {w : Cond} (h : lw_tbl[i]? = some w) (hg : goodWord w = true) : w ∈ zk_T := List.mem_filter.mpr ⟨List.mem_of_getElem? h, hg⟩
def zk_Q (E : ZE) (r : ZR) : Array Value → State → Outcome → State → Prop := fun _ st oc t => oc = .returned (r.1.map (zk_c E.1)) ∧ (zk_W E r.2 t.heap ∧ zk_K E t) ∧ va_F E.2.2.2.2 st t
-- locals
def zk_nth : ZL → Nat → Option ZV
  | [], _ => none
  | a :: _, 0 => a
  | _ :: l, n + 1 => zk_nth l n
def zk_put : ZL → Nat → ZV → ZL
  | [], _, _ => []
  | _ :: l, 0, v => some v :: l
  | a :: l, n + 1, v => a :: zk_put l n v
def zk_lg : Option ZV → Bool
  | some (.inr (.inl _)) => true
  | _ => false
def zk_ok1 (L : ZL) : Nat → Bool
  | 0 => true
  | j + 1 => !zk_lg (zk_nth L j)
def zk_lv (ad : Nat → Nat) : ZL → Nat → List (Nat × Value)
  | [], _ => []
  | none :: l, i => zk_lv ad l (i + 1)
  | some v :: l, i => (i, zk_c ad v) :: zk_lv ad l (i + 1)
def zk_L (E : ZE) (ls : Array Slot) (nL : Nat) (L : ZL) : Prop := L.length = nL ∧ (∀ (i : Nat) (v : ZV), zk_nth L i = some v → zk_w E v) ∧ lv_has ls nL (zk_lv E.1 L 0)
theorem zk_lv_mem (ad : Nat → Nat) : ∀ (L : ZL) (i : Nat) (q : Nat × Value), q ∈ zk_lv ad L i ↔ ∃ (j : Nat) (v : ZV), zk_nth L j = some v ∧ q = (i + j, zk_c ad v)
  | [], i, q => by simp [zk_lv, zk_nth]
  | none :: l, i, q => by
    rw [show zk_lv ad (none :: l) i = zk_lv ad l (i + 1) from rfl, zk_lv_mem ad l (i + 1) q]
    constructor
    · rintro ⟨j, v, h1, h2⟩
      exact ⟨j + 1, v, h1, by rw [h2]; congr 1; omega⟩
    · rintro ⟨j, v, h1, h2⟩
      cases j with
      | zero => cases h1
      | succ j => exact ⟨j, v, h1, by rw [h2]; congr 1; omega⟩
  | some w :: l, i, q => by
    rw [show zk_lv ad (some w :: l) i = (i, zk_c ad w) :: zk_lv ad l (i + 1) from rfl, List.mem_cons, zk_lv_mem ad l (i + 1) q]
    constructor
    · rintro (h | ⟨j, v, h1, h2⟩)
      · exact ⟨0, w, rfl, h⟩
      · exact ⟨j + 1, v, h1, by rw [h2]; congr 1; omega⟩
    · rintro ⟨j, v, h1, h2⟩
      cases j with
      | zero => cases h1; exact Or.inl h2
      | succ j => exact Or.inr ⟨j, v, h1, by rw [h2]; congr 1; omega⟩
theorem zk_nth_put : ∀ (L : ZL) (i j : Nat) (v : ZV), i < L.length → zk_nth (zk_put L i v) j = if j = i then some v else zk_nth L j
  | [], i, j, v, h => absurd h (Nat.not_lt_zero _)
  | a :: l, 0, 0, v, _ => rfl
  | a :: l, 0, j + 1, v, _ => by simp [zk_put, zk_nth]
  | a :: l, i + 1, 0, v, _ => by simp [zk_put, zk_nth]
  | a :: l, i + 1, j + 1, v, h => by
    simp only [zk_put, zk_nth]
    rw [zk_nth_put l i j v (Nat.lt_of_succ_lt_succ h)]
    simp
theorem zk_put_len : ∀ (L : ZL) (i : Nat) (v : ZV), (zk_put L i v).length = L.length
  | [], _, _ => rfl
  | _ :: _, 0, _ => rfl
  | _ :: l, i + 1, v => by simp [zk_put, zk_put_len l i v]
theorem zk_L.at {E : ZE} {ls : Array Slot} {nL : Nat} {L : ZL} (h : zk_L E ls nL L) {i : Nat} {v : ZV} (hi : zk_nth L i = some v) : ls[i]? = some (.val (zk_c E.1 v)) :=
  h.2.2.2.2 (i, zk_c E.1 v) ((zk_lv_mem E.1 L 0 _).mpr ⟨i, v, hi, by simp⟩)
theorem zk_c_cat (ad : Nat → Nat) (v : ZV) : ((zk_c ad v).category == 2) = zk_lg (some v) := by
  rcases v with x | y | q <;> rfl
theorem zk_L.store {E : ZE} {nL : Nat} {L : ZL} {ls' : Array Slot} {i : Nat} {v : ZV} (hlen : L.length = nL) (hw : ∀ (j : Nat) (w : ZV), zk_nth L j = some w → zk_w E w) (hi : i < nL) (hv : zk_w E v) (ho : zk_ok1 L i = true)
    (h : lv_has ls' nL ((i, zk_c E.1 v) :: (zk_lv E.1 L 0).filter (fun q => !(q.1 == i) && !(q.1 + 1 == i && q.2.category == 2)))) : zk_L E ls' nL (zk_put L i v) := by
  refine ⟨(zk_put_len L i v).trans hlen, fun j w hj => ?_, h.1, h.2.1, fun q hq => ?_⟩
  · rw [zk_nth_put L i j v (by omega)] at hj
    by_cases e : j = i
    · rw [if_pos e] at hj; cases hj; exact hv
    · rw [if_neg e] at hj; exact hw j w hj
  · obtain ⟨j, w, h1, h2⟩ := (zk_lv_mem E.1 _ 0 q).mp hq
    rw [zk_nth_put L i j v (by omega)] at h1
    subst h2
    by_cases e : j = i
    · rw [if_pos e] at h1; cases h1; subst e
      exact h.2.2 (0 + j, zk_c E.1 v) (by rw [Nat.zero_add]; exact List.mem_cons_self)
    · rw [if_neg e] at h1
      refine h.2.2 _ (List.mem_cons_of_mem _ (List.mem_filter.mpr ⟨(zk_lv_mem E.1 L 0 _).mpr ⟨j, w, h1, rfl⟩, ?_⟩))
      have e1 : ((0 + j) == i) = false := by simp; omega
      simp only [e1, Bool.not_false, Bool.true_and, zk_c_cat]
      by_cases e2 : 0 + j + 1 = i
      · have : i = j + 1 := by omega
        subst this
        have : zk_lg (some w) = false := by
          have h3 : (!zk_lg (zk_nth L j)) = true := ho
          rw [h1] at h3
          simpa using h3
        simp [this]
      · have e3 : ((0 + j + 1) == i) = false := beq_eq_false_iff_ne.mpr e2
        simp only [e3, Bool.false_and, Bool.not_false]
/-- fewer locals known -/
def zk_le : ZL → ZL → Prop
  | [], [] => True
  | none :: a, _ :: b => zk_le a b
  | some v :: a, w :: b => w = some v ∧ zk_le a b
  | _, _ => False
theorem zk_le_len : ∀ (a b : ZL), zk_le a b → a.length = b.length
  | [], [], _ => rfl
  | [], _ :: _, h => h.elim
  | none :: a, [], h => h.elim
  | some _ :: a, [], h => h.elim
  | none :: a, _ :: b, h => by simp [zk_le_len a b h]
  | some _ :: a, _ :: b, h => by simp [zk_le_len a b h.2]
theorem zk_le_nth : ∀ (a b : ZL), zk_le a b → ∀ (i : Nat) (v : ZV), zk_nth a i = some v → zk_nth b i = some v
  | [], [], _, _, _, h => by cases h
  | [], _ :: _, h, _, _, _ => h.elim
  | none :: a, [], h, _, _, _ => h.elim
  | some _ :: a, [], h, _, _, _ => h.elim
  | none :: a, _ :: b, h, 0, _, h1 => by cases h1
  | none :: a, _ :: b, h, i + 1, v, h1 => zk_le_nth a b h i v h1
  | some _ :: a, _ :: b, h, 0, v, h1 => h.1.trans h1
  | some _ :: a, _ :: b, h, i + 1, v, h1 => zk_le_nth a b h.2 i v h1
theorem zk_L.less {E : ZE} {ls : Array Slot} {nL : Nat} {L L' : ZL} (h : zk_L E ls nL L) (hl : zk_le L' L) : zk_L E ls nL L' := by
  refine ⟨(zk_le_len _ _ hl).trans h.1, fun i v hi => h.2.1 i v (zk_le_nth _ _ hl i v hi), h.2.2.1, h.2.2.2.1, fun q hq => ?_⟩
  obtain ⟨j, w, h1, h2⟩ := (zk_lv_mem E.1 _ 0 q).mp hq
  exact h.2.2.2.2 q ((zk_lv_mem E.1 L 0 q).mpr ⟨j, w, zk_le_nth _ _ hl j w h1, h2⟩)
-- what is right at a pc
def zk_S (X : ZX) (E : ZE) (nL : Nat) {ρ : Type} (q : ρ → ZR) (pc : Nat) (κ : ZK ρ) : Prop :=
  ∀ (H : Heap) (locs : List Loc) (ls : Array Slot) (L : ZL) (st : List ZV) (μ : ZM) (r : ρ), κ L st μ = some r → zk_L E ls nL L → (∀ v ∈ st, zk_w E v) → zk_W E μ H → va_S E.2.2.2.2 X.2.2.2.2.1.heap H locs →
    W X.1 X.2.1 X.2.2.1 X.2.2.2.1 X.2.2.2.2.1 X.2.2.2.2.2.1 X.2.2.2.2.2.2.1 X.2.2.2.2.2.2.2.1 X.2.2.2.2.2.2.2.2.1 X.2.2.2.2.2.2.2.2.2 H locs 0 0 (MQ X.2.2.2.2.2.2.2.1 (zk_Q E (q r)) X.2.2.2.2.2.2.1 X.2.2.2.2.1 0 0 E.2.2.2.2) (F0 X.2.2.2.2.2.1 pc ls (st.map (zk_c E.1)))
/-- what stands fast while a method runs -/
def zk_X (X : ZX) (E : ZE) (own : String) (cc : ByteArray) (nL : Nat) (ret : Option FieldType) (rm : Room) : Prop :=
  X.1.tables.exec = Jvm.exec ∧ X.2.2.2.2.2.2.2.2.2.code = cc ∧ X.2.2.2.2.2.2.2.2.2.maxLocals = nL ∧ X.2.2.2.2.1.vm.findClass own = some X.2.2.2.2.2.1.cls ∧ (∀ w ∈ zk_T, w.before X.2.2.2.2.2.2.1 X.2.2.2.2.1 = true) ∧ zk_K E X.2.2.2.2.1 ∧ X.2.2.2.2.2.2.2.2.1.locks = false ∧ X.2.2.2.2.2.2.2.2.1.sig.returnType = ret ∧ zk_okB E.2.2.2.1 = true ∧ X.2.2.2.1 = rm
/-- a method's contract: G of the arguments and the memory is its answer and the memory behind it -/
def zk_C {σ : Type} (y : MethodName) (cc : ByteArray) (nL : Nat) (ret : Option FieldType) (rm : Room) (q : σ → ZR) (G : List ZV → ZM → Option σ) : Prop :=
  ∀ (l : Launch) (E : ZE) (as : List ZV) (μ : ZM) (r : σ), G as μ = some r → zk_okB E.2.2.2.1 = true → (∀ v ∈ as, zk_w E v) →
    Met l y (.code y cc nL ret :: zk_T) rm (va_Pc (as.map (zk_c E.1)) (fun U => zk_W E μ U.heap ∧ zk_K E U)) (zk_Q E (q r)) 0 0 E.2.2.2.2
