def zc_sT : List Nat := [3, 1007, 1007, 1007, 1007]
def zc_sP : List Nat := [0, 4008, 3, 1007, 1007, 1007, 1007, 3, 1007, 1007, 1007, 1007, 3, 1007, 1007, 1007, 1007, 3, 1007, 1007, 1007, 1007, 3, 1007, 1007, 1007, 1007, 3, 1007, 1007, 1007, 1007, 3, 1007, 1007, 1007, 1007, 3, 1007, 1007, 1007, 1007]
def zc_shp : List Nat := [4, 3, 1007, 1007, 1007, 1007, 0, 4008, 3, 1007, 1007, 1007, 1007, 3, 1007, 1007, 1007, 1007, 3, 1007, 1007, 1007, 1007, 3, 1007, 1007, 1007, 1007, 3, 1007, 1007, 1007, 1007, 3, 1007, 1007, 1007, 1007, 3, 1007, 1007, 1007, 1007, 3, 1007, 1007, 1007, 1007, 3, 1007, 1007, 1007, 1007, 0, 4008, 3, 1007, 1007, 1007, 1007, 3, 1007, 1007, 1007, 1007, 3, 1007, 1007, 1007, 1007, 3, 1007, 1007, 1007, 1007, 3, 1007, 1007, 1007, 1007, 3, 1007, 1007, 1007, 1007, 3, 1007, 1007, 1007, 1007, 3, 1007, 1007, 1007, 1007, 2, 1080, 5004, 3, 1007, 1007, 1007, 1007, 1, 3024, 1, 3024, 1, 3024, 1, 3024]
def zr_shp : List Nat := [5, 1032, 1032, 1256, 1032, 1256, 1007, 2080, 1004, 1004, 3096, 3024]
theorem zc_ok : zk_okB zc_shp = true := by decide +kernel
theorem zr_ok : zk_okB zr_shp = true := by decide +kernel
/-- the memory of a new object: by the kind of the cell -/
def zm_k (kd : Nat) : Nat → Int32 := match kd with
  | 3 => fun j => if j = 7 then 1 else 0
  | 1 => fun j => if j = 1 then -1 else 0
  | _ => fun _ => 0
def zm_of (shp : List Nat) : ZM := (fun k => zm_k (shp.getD k 9), fun _ _ => 0)
def zc_m0 : ZM := zm_of zc_shp
def zr_m0 : ZM := (fun k => match k with
  | 1 => upd (fun _ => 0) (Int32.toNatClampNeg 3) 1
  | _ => fun _ => 0, fun _ _ => 0)
def zk_mp (E : ZE) (μ : ZM) : List Nat → Nat → va_W
  | [], _ => []
  | kd :: l, k => (E.1 k, zk_E E μ k kd) :: zk_mp E μ l (k + 1)
theorem zk_mp_at (E : ZE) (μ : ZM) : ∀ (l : List Nat) (b k : Nat), (zk_mp E μ l b)[k]? = (l[k]?).map (fun kd => (E.1 (b + k), zk_E E μ (b + k) kd))
  | [], b, k => by simp [zk_mp]
  | kd :: l, b, 0 => by simp [zk_mp]
  | kd :: l, b, k + 1 => by
    rw [zk_mp, List.getElem?_cons_succ, zk_mp_at E μ l (b + 1) k, List.getElem?_cons_succ, show b + 1 + k = b + (k + 1) by omega]
theorem zk_mp_ws (E : ZE) (μ : ZM) : zk_ws E μ = zk_mp E μ E.2.2.2.1 0 := by
  apply List.ext_getElem?
  intro i
  rw [zk_mp_at, zk_ws, List.getElem?_mapIdx, Nat.zero_add]
theorem zk_mp_app (E : ZE) (μ : ZM) : ∀ (l1 l2 : List Nat) (b : Nat), zk_mp E μ (l1 ++ l2) b = zk_mp E μ l1 b ++ zk_mp E μ l2 (b + l1.length)
  | [], l2, b => by simp [zk_mp]
  | kd :: l1, l2, b => by
    rw [List.cons_append, zk_mp, zk_mp, zk_mp_app E μ l1 l2 (b + 1), List.cons_append, List.length_cons, show b + 1 + l1.length = b + (l1.length + 1) by omega]
/-- a block by itself -/
def zb (cA : Nat → ClassId) (ad : Nat → Nat) (shp : List Nat) : va_W := zk_mp (ad, (fun _ => 0, fun _ _ => 0), cA, [], fun _ => True) (zm_of shp) shp 0
theorem zb_T {cA : Nat → ClassId} {b : Nat} {w : va_W} (h : zp_X3_init cA b w) : ∃ ad : Nat → Nat, ad 0 = b ∧ w = zb cA ad zc_sT := by
  obtain ⟨q1, q2, q3, q4, rfl⟩ := h
  exact ⟨fun k => [b, q1, q2, q3, q4].getD k 0, rfl, rfl⟩
theorem zb_L {cA : Nat → ClassId} {b : Nat} {w : va_W} (h : zp_X2_init cA b w) : ∃ ad : Nat → Nat, ad 0 = b ∧ w = zb cA ad [2, 1080] := by
  obtain ⟨q1, rfl⟩ := h
  exact ⟨fun k => [b, q1].getD k 0, rfl, rfl⟩
theorem zb_S {cA : Nat → ClassId} {b : Nat} {w : va_W} (h : zp_X1_init cA b w) : ∃ ad : Nat → Nat, ad 0 = b ∧ w = zb cA ad [1, 3024] := by
  obtain ⟨q1, rfl⟩ := h
  exact ⟨fun k => [b, q1].getD k 0, rfl, rfl⟩
def zb_adP (h0 q0 : Nat) (as : List (Nat → Nat)) (k : Nat) : Nat := match k with
  | 0 => h0
  | 1 => q0
  | k + 2 => (as.getD (k / 5) (fun _ => 0)) (k % 5)
theorem zb_P {cA : Nat → ClassId} {b : Nat} {w : va_W} (h : zp_X0_init cA b w) : ∃ ad : Nat → Nat, ad 0 = b ∧ w = zb cA ad zc_sP := by
  obtain ⟨q0, b0, w0, hw0, b1, w1, hw1, b2, w2, hw2, b3, w3, hw3, b4, w4, hw4, b5, w5, hw5, b6, w6, hw6, b7, w7, hw7, rfl⟩ := h
  obtain ⟨a0, e0, rfl⟩ := zb_T hw0
  subst e0
  obtain ⟨a1, e1, rfl⟩ := zb_T hw1
  subst e1
  obtain ⟨a2, e2, rfl⟩ := zb_T hw2
  subst e2
  obtain ⟨a3, e3, rfl⟩ := zb_T hw3
  subst e3
  obtain ⟨a4, e4, rfl⟩ := zb_T hw4
  subst e4
  obtain ⟨a5, e5, rfl⟩ := zb_T hw5
  subst e5
  obtain ⟨a6, e6, rfl⟩ := zb_T hw6
  subst e6
  obtain ⟨a7, e7, rfl⟩ := zb_T hw7
  subst e7
  refine ⟨zb_adP b q0 [a0, a1, a2, a3, a4, a5, a6, a7], rfl, ?_⟩
  have e : (fun i => [a0 0, a1 0, a2 0, a3 0, a4 0, a5 0, a6 0, a7 0][i]?) = (fun i => if i < 8 then some (zb_adP b q0 [a0, a1, a2, a3, a4, a5, a6, a7] (1 + 1 + 5 * i)) else none) := by
    funext i
    match i with
    | 0 => rfl
    | 1 => rfl
    | 2 => rfl
    | 3 => rfl
    | 4 => rfl
    | 5 => rfl
    | 6 => rfl
    | 7 => rfl
    | n + 8 =>
      rw [if_neg (by omega)]
      simp
  rw [e]
  rfl
def zb_adC (h0 q0 : Nat) (a1 a2 a3 a4 a5 a6 s0 s1 s2 s3 : Nat → Nat) (k : Nat) : Nat :=
  if k < 1 then h0 else if k < 6 then a1 (k - 1) else if k < 48 then a2 (k - 6) else if k < 53 then a3 (k - 48) else if k < 95 then a4 (k - 53) else if k < 97 then a5 (k - 95) else if k < 98 then q0 else if k < 103 then a6 (k - 98) else if k < 105 then s0 (k - 103) else if k < 107 then s1 (k - 105) else if k < 109 then s2 (k - 107) else s3 (k - 109)
theorem zb_same {E E' : ZE} {μ μ' : ZM} (hc : E.2.2.1 = E'.2.2.1) : ∀ (l : List Nat) (b b' : Nat), (∀ k, k < l.length → E.1 (b + k) = E'.1 (b' + k) ∧ ∀ kd, l[k]? = some kd → zk_E E μ (b + k) kd = zk_E E' μ' (b' + k) kd) → zk_mp E μ l b = zk_mp E' μ' l b'
  | [], _, _, _ => rfl
  | kd :: l, b, b', h => by
    have h0 := h 0 (by simp)
    rw [zk_mp, zk_mp, zb_same hc l (b + 1) (b' + 1) (fun k hk => by
      have h1 := h (k + 1) (by simpa using hk)
      rw [show b + (k + 1) = b + 1 + k by omega, show b' + (k + 1) = b' + 1 + k by omega] at h1
      exact h1)]
    have e1 : E.1 b = E'.1 b' := h0.1
    have e2 : zk_E E μ b kd = zk_E E' μ' b' kd := h0.2 kd rfl
    rw [e1, e2]
set_option maxRecDepth 100000 in
theorem zb_a1 {cA : Nat → ClassId} {D : va_G} {A : Nat → Prop} {h0 q0 : Nat} {a1 a2 a3 a4 a5 a6 s0 s1 s2 s3 : Nat → Nat} : zk_mp (zb_adC h0 q0 a1 a2 a3 a4 a5 a6 s0 s1 s2 s3, D, cA, zc_shp, A) zc_m0 zc_sT 1 = zb cA a1 zc_sT := rfl
set_option maxRecDepth 100000 in
theorem zb_a2 {cA : Nat → ClassId} {D : va_G} {A : Nat → Prop} {h0 q0 : Nat} {a1 a2 a3 a4 a5 a6 s0 s1 s2 s3 : Nat → Nat} : zk_mp (zb_adC h0 q0 a1 a2 a3 a4 a5 a6 s0 s1 s2 s3, D, cA, zc_shp, A) zc_m0 zc_sP 6 = zb cA a2 zc_sP := by
  have e : (fun i => if i < 8 then some (zb_adC h0 q0 a1 a2 a3 a4 a5 a6 s0 s1 s2 s3 (7 + 1 + 5 * i)) else none) = (fun i => if i < 8 then some (a2 (1 + 1 + 5 * i)) else none) := by
    funext i
    match i with
    | 0 => rfl
    | 1 => rfl
    | 2 => rfl
    | 3 => rfl
    | 4 => rfl
    | 5 => rfl
    | 6 => rfl
    | 7 => rfl
    | n + 8 => rw [if_neg (by omega), if_neg (by omega)]
  have e2 : zk_E (zb_adC h0 q0 a1 a2 a3 a4 a5 a6 s0 s1 s2 s3, D, cA, zc_shp, A) zc_m0 7 4008 = zk_E (a2, (fun _ => 0, fun _ _ => 0), cA, [], fun _ => True) (zm_of zc_sP) 1 4008 := congrArg (fun f => (.inl (cA 4, 8, .inr (.inr (.inr (.inr f)))) : va_E)) e
  show (_, _) :: (_, zk_E (zb_adC h0 q0 a1 a2 a3 a4 a5 a6 s0 s1 s2 s3, D, cA, zc_shp, A) zc_m0 7 4008) :: zk_mp (zb_adC h0 q0 a1 a2 a3 a4 a5 a6 s0 s1 s2 s3, D, cA, zc_shp, A) zc_m0 (zc_sP.drop 2) 8 = _
  rw [e2]
  rfl
set_option maxRecDepth 100000 in
theorem zb_a3 {cA : Nat → ClassId} {D : va_G} {A : Nat → Prop} {h0 q0 : Nat} {a1 a2 a3 a4 a5 a6 s0 s1 s2 s3 : Nat → Nat} : zk_mp (zb_adC h0 q0 a1 a2 a3 a4 a5 a6 s0 s1 s2 s3, D, cA, zc_shp, A) zc_m0 zc_sT 48 = zb cA a3 zc_sT := rfl
set_option maxRecDepth 100000 in
theorem zb_a4 {cA : Nat → ClassId} {D : va_G} {A : Nat → Prop} {h0 q0 : Nat} {a1 a2 a3 a4 a5 a6 s0 s1 s2 s3 : Nat → Nat} : zk_mp (zb_adC h0 q0 a1 a2 a3 a4 a5 a6 s0 s1 s2 s3, D, cA, zc_shp, A) zc_m0 zc_sP 53 = zb cA a4 zc_sP := by
  have e : (fun i => if i < 8 then some (zb_adC h0 q0 a1 a2 a3 a4 a5 a6 s0 s1 s2 s3 (54 + 1 + 5 * i)) else none) = (fun i => if i < 8 then some (a4 (1 + 1 + 5 * i)) else none) := by
    funext i
    match i with
    | 0 => rfl
    | 1 => rfl
    | 2 => rfl
    | 3 => rfl
    | 4 => rfl
    | 5 => rfl
    | 6 => rfl
    | 7 => rfl
    | n + 8 => rw [if_neg (by omega), if_neg (by omega)]
  have e2 : zk_E (zb_adC h0 q0 a1 a2 a3 a4 a5 a6 s0 s1 s2 s3, D, cA, zc_shp, A) zc_m0 54 4008 = zk_E (a4, (fun _ => 0, fun _ _ => 0), cA, [], fun _ => True) (zm_of zc_sP) 1 4008 := congrArg (fun f => (.inl (cA 4, 8, .inr (.inr (.inr (.inr f)))) : va_E)) e
  show (_, _) :: (_, zk_E (zb_adC h0 q0 a1 a2 a3 a4 a5 a6 s0 s1 s2 s3, D, cA, zc_shp, A) zc_m0 54 4008) :: zk_mp (zb_adC h0 q0 a1 a2 a3 a4 a5 a6 s0 s1 s2 s3, D, cA, zc_shp, A) zc_m0 (zc_sP.drop 2) 55 = _
  rw [e2]
  rfl
set_option maxRecDepth 100000 in
theorem zb_a5 {cA : Nat → ClassId} {D : va_G} {A : Nat → Prop} {h0 q0 : Nat} {a1 a2 a3 a4 a5 a6 s0 s1 s2 s3 : Nat → Nat} : zk_mp (zb_adC h0 q0 a1 a2 a3 a4 a5 a6 s0 s1 s2 s3, D, cA, zc_shp, A) zc_m0 [2, 1080] 95 = zb cA a5 [2, 1080] := rfl
set_option maxRecDepth 100000 in
theorem zb_a6 {cA : Nat → ClassId} {D : va_G} {A : Nat → Prop} {h0 q0 : Nat} {a1 a2 a3 a4 a5 a6 s0 s1 s2 s3 : Nat → Nat} : zk_mp (zb_adC h0 q0 a1 a2 a3 a4 a5 a6 s0 s1 s2 s3, D, cA, zc_shp, A) zc_m0 zc_sT 98 = zb cA a6 zc_sT := rfl
set_option maxRecDepth 100000 in
theorem zb_s0 {cA : Nat → ClassId} {D : va_G} {A : Nat → Prop} {h0 q0 : Nat} {a1 a2 a3 a4 a5 a6 s0 s1 s2 s3 : Nat → Nat} : zk_mp (zb_adC h0 q0 a1 a2 a3 a4 a5 a6 s0 s1 s2 s3, D, cA, zc_shp, A) zc_m0 [1, 3024] 103 = zb cA s0 [1, 3024] := rfl
set_option maxRecDepth 100000 in
theorem zb_s1 {cA : Nat → ClassId} {D : va_G} {A : Nat → Prop} {h0 q0 : Nat} {a1 a2 a3 a4 a5 a6 s0 s1 s2 s3 : Nat → Nat} : zk_mp (zb_adC h0 q0 a1 a2 a3 a4 a5 a6 s0 s1 s2 s3, D, cA, zc_shp, A) zc_m0 [1, 3024] 105 = zb cA s1 [1, 3024] := rfl
set_option maxRecDepth 100000 in
theorem zb_s2 {cA : Nat → ClassId} {D : va_G} {A : Nat → Prop} {h0 q0 : Nat} {a1 a2 a3 a4 a5 a6 s0 s1 s2 s3 : Nat → Nat} : zk_mp (zb_adC h0 q0 a1 a2 a3 a4 a5 a6 s0 s1 s2 s3, D, cA, zc_shp, A) zc_m0 [1, 3024] 107 = zb cA s2 [1, 3024] := rfl
set_option maxRecDepth 100000 in
theorem zb_s3 {cA : Nat → ClassId} {D : va_G} {A : Nat → Prop} {h0 q0 : Nat} {a1 a2 a3 a4 a5 a6 s0 s1 s2 s3 : Nat → Nat} : zk_mp (zb_adC h0 q0 a1 a2 a3 a4 a5 a6 s0 s1 s2 s3, D, cA, zc_shp, A) zc_m0 [1, 3024] 109 = zb cA s3 [1, 3024] := rfl
set_option maxRecDepth 100000 in
theorem zn_asmC {cA : Nat → ClassId} {h0 : Nat} {w : va_W} {D : va_G} {A : Nat → Prop} {H : Heap} (h : zp_X4_init cA h0 w) (hP : va_P D vwCl w H) (hD : va_D A w) : ∃ ad : Nat → Nat, ad 0 = h0 ∧ zk_W (ad, D, cA, zc_shp, A) zc_m0 H := by
  obtain ⟨t1, w1, h1, t2, w2, h2, t3, w3, h3, t4, w4, h4, t5, w5, h5, t6, w6, h6, q0, b0, u0, g0, b1, u1, g1, b2, u2, g2, b3, u3, g3, ew⟩ := h
  obtain ⟨a1, e1, f1⟩ := zb_T h1
  obtain ⟨a2, e2, f2⟩ := zb_P h2
  obtain ⟨a3, e3, f3⟩ := zb_T h3
  obtain ⟨a4, e4, f4⟩ := zb_P h4
  obtain ⟨a5, e5, f5⟩ := zb_L h5
  obtain ⟨a6, e6, f6⟩ := zb_T h6
  obtain ⟨s0, e7, f7⟩ := zb_S g0
  obtain ⟨s1, e8, f8⟩ := zb_S g1
  obtain ⟨s2, e9, f9⟩ := zb_S g2
  obtain ⟨s3, e10, f10⟩ := zb_S g3
  have key : w = zk_ws (zb_adC h0 q0 a1 a2 a3 a4 a5 a6 s0 s1 s2 s3, D, cA, zc_shp, A) zc_m0 := by
    rw [zk_mp_ws]
    have es : zc_shp = [4] ++ (zc_sT ++ (zc_sP ++ (zc_sT ++ (zc_sP ++ ([2, 1080] ++ ([5004] ++ (zc_sT ++ ([1, 3024] ++ ([1, 3024] ++ ([1, 3024] ++ [1, 3024])))))))))) := by decide +kernel
    have em : ∀ l b, zk_mp (zb_adC h0 q0 a1 a2 a3 a4 a5 a6 s0 s1 s2 s3, D, cA, zc_shp, A) zc_m0 l b = zk_mp (zb_adC h0 q0 a1 a2 a3 a4 a5 a6 s0 s1 s2 s3, D, cA, zc_shp, A) zc_m0 l b := fun _ _ => rfl
    show w = zk_mp (zb_adC h0 q0 a1 a2 a3 a4 a5 a6 s0 s1 s2 s3, D, cA, zc_shp, A) zc_m0 zc_shp 0
    conv => rhs; arg 3; rw [es]
    rw [zk_mp_app, zk_mp_app, zk_mp_app, zk_mp_app, zk_mp_app, zk_mp_app, zk_mp_app, zk_mp_app, zk_mp_app, zk_mp_app, zk_mp_app]
    have z1 := zb_a1 (cA := cA) (D := D) (A := A) (h0 := h0) (q0 := q0) (a1 := a1) (a2 := a2) (a3 := a3) (a4 := a4) (a5 := a5) (a6 := a6) (s0 := s0) (s1 := s1) (s2 := s2) (s3 := s3)
    have z2 := zb_a2 (cA := cA) (D := D) (A := A) (h0 := h0) (q0 := q0) (a1 := a1) (a2 := a2) (a3 := a3) (a4 := a4) (a5 := a5) (a6 := a6) (s0 := s0) (s1 := s1) (s2 := s2) (s3 := s3)
    have z3 := zb_a3 (cA := cA) (D := D) (A := A) (h0 := h0) (q0 := q0) (a1 := a1) (a2 := a2) (a3 := a3) (a4 := a4) (a5 := a5) (a6 := a6) (s0 := s0) (s1 := s1) (s2 := s2) (s3 := s3)
    have z4 := zb_a4 (cA := cA) (D := D) (A := A) (h0 := h0) (q0 := q0) (a1 := a1) (a2 := a2) (a3 := a3) (a4 := a4) (a5 := a5) (a6 := a6) (s0 := s0) (s1 := s1) (s2 := s2) (s3 := s3)
    have z5 := zb_a5 (cA := cA) (D := D) (A := A) (h0 := h0) (q0 := q0) (a1 := a1) (a2 := a2) (a3 := a3) (a4 := a4) (a5 := a5) (a6 := a6) (s0 := s0) (s1 := s1) (s2 := s2) (s3 := s3)
    have z6 := zb_a6 (cA := cA) (D := D) (A := A) (h0 := h0) (q0 := q0) (a1 := a1) (a2 := a2) (a3 := a3) (a4 := a4) (a5 := a5) (a6 := a6) (s0 := s0) (s1 := s1) (s2 := s2) (s3 := s3)
    have z7 := zb_s0 (cA := cA) (D := D) (A := A) (h0 := h0) (q0 := q0) (a1 := a1) (a2 := a2) (a3 := a3) (a4 := a4) (a5 := a5) (a6 := a6) (s0 := s0) (s1 := s1) (s2 := s2) (s3 := s3)
    have z8 := zb_s1 (cA := cA) (D := D) (A := A) (h0 := h0) (q0 := q0) (a1 := a1) (a2 := a2) (a3 := a3) (a4 := a4) (a5 := a5) (a6 := a6) (s0 := s0) (s1 := s1) (s2 := s2) (s3 := s3)
    have z9 := zb_s2 (cA := cA) (D := D) (A := A) (h0 := h0) (q0 := q0) (a1 := a1) (a2 := a2) (a3 := a3) (a4 := a4) (a5 := a5) (a6 := a6) (s0 := s0) (s1 := s1) (s2 := s2) (s3 := s3)
    have z10 := zb_s3 (cA := cA) (D := D) (A := A) (h0 := h0) (q0 := q0) (a1 := a1) (a2 := a2) (a3 := a3) (a4 := a4) (a5 := a5) (a6 := a6) (s0 := s0) (s1 := s1) (s2 := s2) (s3 := s3)
    have eg : (fun i => [b0, b1, b2, b3][i]?) = (fun i => if i < 4 then some (zb_adC h0 q0 a1 a2 a3 a4 a5 a6 s0 s1 s2 s3 (97 + 6 + 2 * i)) else none) := by
      funext i
      match i with
      | 0 => exact congrArg some e7.symm
      | 1 => exact congrArg some e8.symm
      | 2 => exact congrArg some e9.symm
      | 3 => exact congrArg some e10.symm
      | n + 4 =>
        rw [if_neg (by omega)]
        simp
    have y0 : zk_mp (zb_adC h0 q0 a1 a2 a3 a4 a5 a6 s0 s1 s2 s3, D, cA, zc_shp, A) zc_m0 [5004] 97 = [(q0, .inl (cA 5, 4, .inr (.inr (.inr (.inr (fun i => [b0, b1, b2, b3][i]?))))))] := by
      rw [eg]
      rfl
    have x0 : zk_mp (zb_adC h0 q0 a1 a2 a3 a4 a5 a6 s0 s1 s2 s3, D, cA, zc_shp, A) zc_m0 [4] 0 = [(h0, .inr (4, [.ref t1, .ref t2, .ref t3, .ref t4, .ref t5, .ref q0, .ref t6, .int 0]))] := by
      rw [← e1, ← e2, ← e3, ← e4, ← e5, ← e6]
      rfl
    rw [ew, f1, f2, f3, f4, f5, f6, f7, f8, f9, f10]
    rw [← z1, ← z2, ← z3, ← z4, ← z5, ← z6, ← z7, ← z8, ← z9, ← z10]
    show _ = zk_mp _ _ [4] 0 ++ (zk_mp _ _ zc_sT 1 ++ (zk_mp _ _ zc_sP 6 ++ (zk_mp _ _ zc_sT 48 ++ (zk_mp _ _ zc_sP 53 ++ (zk_mp _ _ [2, 1080] 95 ++ (zk_mp _ _ [5004] 97 ++ (zk_mp _ _ zc_sT 98 ++ (zk_mp _ _ [1, 3024] 103 ++ (zk_mp _ _ [1, 3024] 105 ++ (zk_mp _ _ [1, 3024] 107 ++ zk_mp _ _ [1, 3024] 109))))))))))
    rw [x0, y0]
    simp only [List.append_assoc, List.cons_append, List.nil_append]
  rw [key] at hP hD
  exact ⟨zb_adC h0 q0 a1 a2 a3 a4 a5 a6 s0 s1 s2 s3, rfl, hP, hD⟩
set_option maxRecDepth 100000 in
theorem zn_asmR {cA : Nat → ClassId} {h0 : Nat} {w : va_W} {D : va_G} {A : Nat → Prop} {H : Heap} (h : zp_X5_init cA h0 w) (hP : va_P D vwCl w H) (hD : va_D A w) : ∃ ad : Nat → Nat, ad 0 = h0 ∧ zk_W (ad, D, cA, zr_shp, A) zr_m0 H := by
  obtain ⟨q1, q2, q3, q4, q5, q6, q7, q8, q9, q10, q11, rfl⟩ := h
  refine ⟨fun k => [h0, q1, q2, q3, q4, q5, q6, q7, q8, q9, q10, q11].getD k 0, rfl, ?_⟩
  unfold zk_W
  rw [zk_mp_ws]
  exact ⟨hP, hD⟩
