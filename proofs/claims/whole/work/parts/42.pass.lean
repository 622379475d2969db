-- cells of the memory
theorem zp_si (μ : ZM) (k j : Nat) (v : Int32) (q i : Nat) : (zk_si μ k j v).1 q i = if q = k ∧ i = j then v else μ.1 q i := by
  unfold zk_si
  by_cases h : q = k
  · subst h
    by_cases h2 : i = j <;> simp [upd, h2]
  · simp [h]
theorem zp_sk {μ : ZM} {k j : Nat} {v : Int32} {q i : Nat} (h : q ≠ k ∨ i ≠ j) : (zk_si μ k j v).1 q i = μ.1 q i := by
  rw [zp_si, if_neg (by rintro ⟨h1, h2⟩; rcases h with h | h <;> contradiction)]
theorem zp_ss {μ : ZM} {k j : Nat} {v : Int32} : (zk_si μ k j v).1 k j = v := by rw [zp_si, if_pos ⟨rfl, rfl⟩]
def upN (f : Nat → Nat) (i v : Nat) : Nat → Nat := fun j => if j = i then v else f j
theorem upN_s {f : Nat → Nat} {i v : Nat} : upN f i v i = v := by simp [upN]
theorem upN_n {f : Nat → Nat} {i j v : Nat} (h : j ≠ i) : upN f i v j = f j := by simp [upN, h]
abbrev Tg (T : Tw) (g : Nat) : Tw := (tn T, g, ty T, td T, tk T, tw T, to_ T, tt T)
abbrev Ty (T : Tw) (y : Nat) : Tw := (tn T, tg T, y, td T, tk T, tw T, to_ T, tt T)
abbrev Td (T : Tw) (d : Nat) : Tw := (tn T, tg T, ty T, d, tk T, tw T, to_ T, tt T)
abbrev Twd (T : Tw) (i v : Nat) : Tw := (tn T, tg T, ty T, td T, tk T, upN (tw T) i v, to_ T, tt T)
abbrev Tol (T : Tw) (i v : Nat) : Tw := (tn T, tg T, ty T, td T, tk T, tw T, upN (to_ T) i v, tt T)
abbrev Ttm (T : Tw) (i v : Nat) : Tw := (tn T, tg T, ty T, td T, tk T, tw T, to_ T, upN (tt T) i v)
abbrev Tkd (T : Tw) (i v : Nat) : Tw := (tn T, tg T, ty T, td T, upN (tk T) i v, tw T, to_ T, tt T)
theorem CT.g {μ : ZM} {a : Nat} {T : Tw} (h : CT μ a T) (g : Nat) : CT (zk_si μ a 5 (nI g)) a (Tg T g) := by
  obtain ⟨h1, h2, h3, h4, h5⟩ := h
  refine ⟨by rw [zp_sk (by omega)]; exact h1, zp_ss, by rw [zp_sk (by omega)]; exact h3, by rw [zp_sk (by omega)]; exact h4, fun i hi => ?_⟩
  rw [zp_sk (by omega), zp_sk (by omega), zp_sk (by omega), zp_sk (by omega)]
  exact h5 i hi
theorem CT.y {μ : ZM} {a : Nat} {T : Tw} (h : CT μ a T) (y : Nat) : CT (zk_si μ a 6 (nI y)) a (Ty T y) := by
  obtain ⟨h1, h2, h3, h4, h5⟩ := h
  refine ⟨by rw [zp_sk (by omega)]; exact h1, by rw [zp_sk (by omega)]; exact h2, zp_ss, by rw [zp_sk (by omega)]; exact h4, fun i hi => ?_⟩
  rw [zp_sk (by omega), zp_sk (by omega), zp_sk (by omega), zp_sk (by omega)]
  exact h5 i hi
theorem CT.d {μ : ZM} {a : Nat} {T : Tw} (h : CT μ a T) (d : Nat) : CT (zk_si μ a 7 (nI d)) a (Td T d) := by
  obtain ⟨h1, h2, h3, h4, h5⟩ := h
  refine ⟨by rw [zp_sk (by omega)]; exact h1, by rw [zp_sk (by omega)]; exact h2, by rw [zp_sk (by omega)]; exact h3, zp_ss, fun i hi => ?_⟩
  rw [zp_sk (by omega), zp_sk (by omega), zp_sk (by omega), zp_sk (by omega)]
  exact h5 i hi
theorem zp_upc {μ : ZM} {c : Nat} {f : Nat → Nat} {i v : Nat} {j : Nat} (h : μ.1 c j = nI (f j)) : (zk_si μ c i (nI v)).1 c j = nI (upN f i v j) := by
  by_cases e : j = i
  · subst e; rw [zp_ss, upN_s]
  · rw [zp_sk (Or.inr e), upN_n e]; exact h
theorem CT.k {μ : ZM} {a : Nat} {T : Tw} (h : CT μ a T) (i v : Nat) : CT (zk_si μ (a + 1) i (nI v)) a (Tkd T i v) := by
  obtain ⟨h1, h2, h3, h4, h5⟩ := h
  refine ⟨by rw [zp_sk (by omega)]; exact h1, by rw [zp_sk (by omega)]; exact h2, by rw [zp_sk (by omega)]; exact h3, by rw [zp_sk (by omega)]; exact h4, fun j hj => ⟨zp_upc (h5 j hj).1, ?_⟩⟩
  rw [zp_sk (by omega), zp_sk (by omega), zp_sk (by omega)]
  exact (h5 j hj).2
theorem CT.w {μ : ZM} {a : Nat} {T : Tw} (h : CT μ a T) (i v : Nat) : CT (zk_si μ (a + 2) i (nI v)) a (Twd T i v) := by
  obtain ⟨h1, h2, h3, h4, h5⟩ := h
  refine ⟨by rw [zp_sk (by omega)]; exact h1, by rw [zp_sk (by omega)]; exact h2, by rw [zp_sk (by omega)]; exact h3, by rw [zp_sk (by omega)]; exact h4, fun j hj => ⟨?_, zp_upc (h5 j hj).2.1, ?_⟩⟩
  · rw [zp_sk (by omega)]; exact (h5 j hj).1
  · rw [zp_sk (by omega), zp_sk (by omega)]
    exact (h5 j hj).2.2
theorem CT.o {μ : ZM} {a : Nat} {T : Tw} (h : CT μ a T) (i v : Nat) : CT (zk_si μ (a + 3) i (nI v)) a (Tol T i v) := by
  obtain ⟨h1, h2, h3, h4, h5⟩ := h
  refine ⟨by rw [zp_sk (by omega)]; exact h1, by rw [zp_sk (by omega)]; exact h2, by rw [zp_sk (by omega)]; exact h3, by rw [zp_sk (by omega)]; exact h4, fun j hj => ⟨?_, ?_, zp_upc (h5 j hj).2.2.1, ?_⟩⟩
  · rw [zp_sk (by omega)]; exact (h5 j hj).1
  · rw [zp_sk (by omega)]; exact (h5 j hj).2.1
  · rw [zp_sk (by omega)]; exact (h5 j hj).2.2.2
theorem CT.t {μ : ZM} {a : Nat} {T : Tw} (h : CT μ a T) (i v : Nat) : CT (zk_si μ (a + 4) i (nI v)) a (Ttm T i v) := by
  obtain ⟨h1, h2, h3, h4, h5⟩ := h
  refine ⟨by rw [zp_sk (by omega)]; exact h1, by rw [zp_sk (by omega)]; exact h2, by rw [zp_sk (by omega)]; exact h3, by rw [zp_sk (by omega)]; exact h4, fun j hj => ⟨?_, ?_, ?_, zp_upc (h5 j hj).2.2.2⟩⟩
  · rw [zp_sk (by omega)]; exact (h5 j hj).1
  · rw [zp_sk (by omega)]; exact (h5 j hj).2.1
  · rw [zp_sk (by omega)]; exact (h5 j hj).2.2.1
/-- alike towns: within the couples -/
def zp_eq (T U : Tw) : Prop := tn T = tn U ∧ tg T = tg U ∧ ty T = ty U ∧ td T = td U ∧ ∀ i, i < tn T → tk T i = tk U i ∧ tw T i = tw U i ∧ to_ T i = to_ U i ∧ tt T i = tt U i
theorem CT.eq {μ : ZM} {a : Nat} {T U : Tw} (h : CT μ a T) (e : zp_eq T U) : CT μ a U := by
  obtain ⟨e1, e2, e3, e4, e5⟩ := e
  obtain ⟨h1, h2, h3, h4, h5⟩ := h
  refine ⟨by rw [h1, e1], by rw [h2, e2], by rw [h3, e3], by rw [h4, e4], fun i hi => ?_⟩
  rw [← e1] at hi
  obtain ⟨f1, f2, f3, f4⟩ := e5 i hi
  rw [← f1, ← f2, ← f3, ← f4]
  exact h5 i hi
theorem RT.eq {ν : ZM} {r off : Nat} {T U : Tw} (h : RT ν r off T) (e : zp_eq T U) : RT ν r off U := by
  obtain ⟨e1, e2, e3, e4, e5⟩ := e
  obtain ⟨h1, h2, h3, h4, h5⟩ := h
  refine ⟨by rw [h1, e1], by rw [h2, e3], by rw [h3, e1, e2], by rw [h4, e4], fun i hi => ?_⟩
  rw [← e1] at hi
  obtain ⟨f1, f2, f3, f4⟩ := e5 i hi
  rw [← f1, ← f2, ← f3, ← f4]
  exact h5 i hi
-- by how much temper is worse
def wz (b1 b2 : Bool) (k y t : Nat) : Int :=
  let plain : Int := if b1 then 1 else -1
  let proud : Int := if b1 then 3 else -1
  let soup : Int := if b2 then plain - 2 else plain
  match k with
  | 0 => plain
  | 1 => proud
  | 2 => soup
  | 3 => if y % 2 = 0 then proud else 0
  | _ => if t < 10 then soup else soup + 3
theorem wz_in (b1 b2 : Bool) (k y t : Nat) : -3 ≤ wz b1 b2 k y t ∧ wz b1 b2 k y t ≤ 6 := by
  unfold wz
  cases b1 <;> cases b2 <;> (simp only; repeat' split) <;> simp <;> omega
theorem zp_odd {y : Nat} (hy : y < 2 ^ 31) : ((nI y - nI y / 2 * 2) = 0) ↔ y % 2 = 0 := by
  have e : nI y - nI y / nI 2 * nI 2 = nI (y % 2) := pk_rem hy (by omega) (by omega)
  rw [show (2 : Int32) = nI 2 from rfl, e, show (0 : Int32) = nI 0 from rfl, nI_eq (by omega) (by omega)]
theorem zp_lit {k c : Nat} (hk : k < 2 ^ 31) (hc : c < 2 ^ 31) : (nI k = nI c) ↔ k = c := nI_eq hk hc
def wm (k y t : Nat) (x5 x6 s0 : Int32) : Int32 := match k with
  | 0 => x5
  | 1 => x6
  | 2 => s0
  | 3 => if y % 2 = 0 then x6 else 0
  | _ => if t < 10 then s0 else s0 + 3
theorem wm_wz (b1 b2 : Bool) (k y t : Nat) : wm k y t (if b1 then 1 else -1) (if b1 then 1 + 2 else -1) (if b2 then (if b1 then 1 else -1) - 2 else (if b1 then 1 else -1)) = Int32.ofInt (wz b1 b2 k y t) := by
  cases b1 <;> cases b2 <;> unfold wm wz <;> (repeat' split) <;> first | rfl | contradiction
theorem zp_worse {N a i : Nat} {μ : ZM} {S : Tw} {c1 c2 : Int32} (h : CT μ a S) (h7 : tn S ≤ 7) (hi : i < tn S) (hk : tk S i ≤ 4) (hy : ty S < 2 ^ 31) (ht : tt S i ≤ 19) : f_X3_worse N a (nI i) c1 c2 μ = some (Int32.ofInt (wz (decide (nI i = c1)) (decide (nI i = c2)) (tk S i) (ty S) (tt S i)), μ) := by
  obtain ⟨h1, h2, h3, h4, h5⟩ := h
  obtain ⟨e1, e2, e3, e4⟩ := h5 i hi
  have key : ∀ x5 x6 s0 : Int32, f_X3_worse_J54 N a (nI i) x5 x6 s0 μ = some (wm (tk S i) (ty S) (tt S i) x5 x6 s0, μ) := by
    intro x5 x6 s0
    unfold f_X3_worse_J54
    rw [zp_o (show i < 7 by omega) (by omega), nI_clamp (by omega), e1, e4, h3]
    simp only [Bool.false_eq_true, if_false]
    have hc : tk S i = 0 ∨ tk S i = 1 ∨ tk S i = 2 ∨ tk S i = 3 ∨ tk S i = 4 := by omega
    rcases hc with hc | hc | hc | hc | hc <;> rw [hc]
    · rfl
    · rfl
    · rfl
    · rw [if_neg (by decide), if_neg (by decide), if_pos (by decide)]
      by_cases ho : ty S % 2 = 0
      · rw [if_neg (fun q => q ((zp_odd hy).mpr ho))]; simp [wm, ho]
      · rw [if_pos (fun q => ho ((zp_odd hy).mp q))]; simp [wm, ho]
    · rw [if_neg (by decide), if_neg (by decide), if_neg (by decide), if_pos (by decide), show (10 : Int32) = nI 10 from rfl]
      by_cases ho : tt S i < 10
      · rw [if_pos (nI_lt ho (by omega))]; simp [wm, ho]
      · rw [if_neg (nI_nlt (show 10 ≤ tt S i by omega) (by omega))]; simp [wm, ho]
  rw [← wm_wz]
  unfold f_X3_worse
  have n1 : ¬ (1 : Int32) = 0 := by decide
  by_cases g1 : nI i = c1
  · rw [if_neg (fun q => q g1), decide_eq_true g1]
    unfold f_X3_worse_J10
    rw [if_neg n1]
    unfold f_X3_worse_J22
    rw [if_neg n1]
    unfold f_X3_worse_J38
    by_cases g2 : nI i = c2
    · rw [if_neg (fun q => q g2), decide_eq_true g2, key]; rfl
    · rw [if_pos g2, decide_eq_false g2, key]; rfl
  · rw [if_pos g1, decide_eq_false g1]
    unfold f_X3_worse_J10
    rw [if_pos rfl]
    unfold f_X3_worse_J22
    rw [if_pos rfl]
    unfold f_X3_worse_J38
    by_cases g2 : nI i = c2
    · rw [if_neg (fun q => q g2), decide_eq_true g2, key]; rfl
    · rw [if_pos g2, decide_eq_false g2, key]; rfl
theorem zq_worse {N r i : Nat} {ν : ZM} {S : Tw} (hN : 8 ≤ N) (h : RT ν r 0 S) (hS : tok S) (hi : i < tn S) (hy : ty S < 2 ^ 31) : f_X5_worseBy N r (nI i) ν = some (Int32.ofInt (wz (decide (kp S = some i)) (decide (sc S = some i)) (tk S i) (ty S) (tt S i)), ν) := by
  have h7 := hS.1
  obtain ⟨b1, b2, b3, b4⟩ := hS.2.2.2 i hi
  have h3 : ν.1 r 1 = nI (ty S) := h.2.1
  obtain ⟨e1, e2, e3, e4⟩ := h.2.2.2.2 i hi
  rw [Nat.zero_add] at e1 e4
  have key : ∀ x5 x6 s0 : Int32, f_X5_worseBy_J52 N r (nI i) x5 x6 s0 ν = some (wm (tk S i) (ty S) (tt S i) x5 x6 s0, ν) := by
    intro x5 x6 s0
    unfold f_X5_worseBy_J52
    rw [show (4 : Int32) = nI 4 from rfl, show (25 : Int32) = nI 25 from rfl, nI_add, nI_add, zp_o (show 4 + i < 32 by omega) (by omega), zp_o (show 25 + i < 32 by omega) (by omega), nI_clamp (by omega), nI_clamp (by omega), e1, e4, h3]
    simp only [Bool.false_eq_true, if_false]
    have hc : tk S i = 0 ∨ tk S i = 1 ∨ tk S i = 2 ∨ tk S i = 3 ∨ tk S i = 4 := by omega
    rcases hc with hc | hc | hc | hc | hc <;> rw [hc]
    · rfl
    · rfl
    · rfl
    · rw [if_neg (by decide), if_neg (by decide), if_neg (by decide), if_pos (by decide)]
      by_cases ho : ty S % 2 = 0
      · rw [if_neg (fun q => q ((zp_odd hy).mpr ho))]; simp [wm, ho]
      · rw [if_pos (fun q => ho ((zp_odd hy).mp q))]; simp [wm, ho]
    · rw [if_neg (by decide), if_neg (by decide), if_neg (by decide), if_neg (by decide), show (10 : Int32) = nI 10 from rfl]
      by_cases ho : tt S i < 10
      · rw [if_pos (nI_lt ho (by omega))]; simp [wm, ho]
      · rw [if_neg (nI_nlt (show 10 ≤ tt S i by omega) (by omega))]; simp [wm, ho]
  have n1 : ¬ (1 : Int32) = 0 := by decide
  have q1 : (zp_cd (kp S) = nI i) ↔ kp S = some i := by
    rw [← zp_cd_eq (i := i) (o := kp S) (by omega) (fun k hk => by have := (kp_lt hk).1; omega)]
    exact ⟨fun q => q.symm, fun q => q.symm⟩
  have q2 : (zp_cd (sc S) = nI i) ↔ sc S = some i := by
    rw [← zp_cd_eq (i := i) (o := sc S) (by omega) (fun k hk => by have := sc_lt hk; omega)]
    exact ⟨fun q => q.symm, fun q => q.symm⟩
  rw [← wm_wz]
  unfold f_X5_worseBy
  rw [zq_keys hN h hS]
  simp only [Option.bind_some]
  by_cases g1 : kp S = some i
  · rw [if_neg (fun q => q (q1.mpr g1)), decide_eq_true g1]
    unfold f_X5_worseBy_J13
    rw [if_neg n1]
    unfold f_X5_worseBy_J23
    rw [if_neg n1]
    unfold f_X5_worseBy_J35
    rw [zq_second hN h hS]
    simp only [Option.bind_some]
    by_cases g2 : sc S = some i
    · rw [if_neg (fun q => q (q2.mpr g2)), decide_eq_true g2, key]; rfl
    · rw [if_pos (fun q => g2 (q2.mp q)), decide_eq_false g2, key]; rfl
  · rw [if_pos (fun q => g1 (q1.mp q)), decide_eq_false g1]
    unfold f_X5_worseBy_J13
    rw [if_pos rfl]
    unfold f_X5_worseBy_J23
    rw [if_pos rfl]
    unfold f_X5_worseBy_J35
    rw [zq_second hN h hS]
    simp only [Option.bind_some]
    by_cases g2 : sc S = some i
    · rw [if_neg (fun q => q (q2.mpr g2)), decide_eq_true g2, key]; rfl
    · rw [if_pos (fun q => g2 (q2.mp q)), decide_eq_false g2, key]; rfl
