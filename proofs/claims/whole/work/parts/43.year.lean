-- a year, on both sides
theorem zp_min {x c : Nat} (hx : x < 2 ^ 31) (hc : c < 2 ^ 31) : (if nI x < nI c then nI x else nI c) = nI (min x c) := by
  by_cases h : x < c
  · rw [if_pos (nI_lt h hc), Nat.min_eq_left (by omega)]
  · rw [if_neg (nI_nlt (by omega) hx), Nat.min_eq_right (by omega)]
abbrev zwo (T : Tw) (i v : Nat) : Tw := if 19 < v ∨ 99 < to_ T i then Ttm (Tol (Tg T (zp_clr (tg T) i)) i (min (to_ T i) 99)) i (min v 19) else Ttm T i v
theorem zp_worsen {N a i v : Nat} {μ : ZM} {T : Tw} {z : Int32} (h : CT μ a T) (h7 : tn T ≤ 7) (hg : tg T < 128) (hi : i < tn T) (ho : to_ T i ≤ 100) (hv : v ≤ 1000) (hV : (if (0 : Int32) < nI (tt T i) + z then nI (tt T i) + z else 0) = nI v) : ∃ μ', f_X3_worsen N a (nI i) z μ = some μ' ∧ CT μ' a (zwo T i v) ∧ zp_Fr a μ μ' := by
  have e4 := (h.2.2.2.2 i hi).2.2.2
  have e3 := (h.2.2.2.2 i hi).2.2.1
  have i7 : i < 7 := by omega
  have key : 19 < v ∨ 99 < to_ T i → ∃ μ', f_X3_worsen_J40 N a (nI i) (zk_si μ (a + 4) i (nI v)) = some μ' ∧ CT μ' a (zwo T i v) ∧ zp_Fr a μ μ' := by
    intro hc
    have c1 := h.t i v
    have g1 : (zk_si μ (a + 4) i (nI v)).1 a 5 = nI (tg T) := c1.2.1
    unfold f_X3_worsen_J40
    simp only [zp_o i7 (show 7 < 2 ^ 31 by omega), nI_clamp (show i < 2 ^ 31 by omega), Bool.false_eq_true, if_false]
    rw [g1, zp_clr_e (tg T) hg i i7]
    have c2 := c1.g (zp_clr (tg T) i)
    have r2 : (zk_si (zk_si μ (a + 4) i (nI v)) a 5 (nI (zp_clr (tg T) i))).1 (a + 4) i = nI v := by rw [zp_sk (by omega), zp_ss]
    rw [r2, show (19 : Int32) = nI 19 from rfl, zp_min (by omega) (by omega)]
    have c3 := c2.t i (min v 19)
    have r3 : (zk_si (zk_si (zk_si μ (a + 4) i (nI v)) a 5 (nI (zp_clr (tg T) i))) (a + 4) i (nI (min v 19))).1 (a + 3) i = nI (to_ T i) := by rw [zp_sk (by omega), zp_sk (by omega), zp_sk (by omega)]; exact e3
    rw [r3, show (99 : Int32) = nI 99 from rfl, zp_min (by omega) (by omega)]
    refine ⟨_, rfl, (c3.o i (min (to_ T i) 99)).eq ?_, ((zp_Fr.si (by omega) (by omega)).tr (zp_Fr.si (by omega) (by omega))).tr ((zp_Fr.si (by omega) (by omega)).tr (zp_Fr.si (by omega) (by omega)))⟩
    unfold zwo
    rw [if_pos hc]
    refine ⟨rfl, rfl, rfl, rfl, fun j hj => ⟨rfl, rfl, rfl, ?_⟩⟩
    by_cases e : j = i
    · subst e; show upN (upN (tt T) j v) j (min v 19) j = upN (tt T) j (min v 19) j; rw [upN_s, upN_s]
    · show upN (upN (tt T) i v) i (min v 19) j = upN (tt T) i (min v 19) j; rw [upN_n e, upN_n e, upN_n e]
  unfold f_X3_worsen
  simp only [zp_o i7 (show 7 < 2 ^ 31 by omega), nI_clamp (show i < 2 ^ 31 by omega), Bool.false_eq_true, if_false]
  rw [e4, hV, zp_ss, show (19 : Int32) = nI 19 from rfl, show (99 : Int32) = nI 99 from rfl, zp_sk (by omega), e3]
  by_cases g1 : 19 < v
  · rw [if_pos (nI_lt g1 (by omega))]
    exact key (Or.inl g1)
  · rw [if_neg (nI_nlt (by omega) (by omega))]
    by_cases g2 : 99 < to_ T i
    · rw [if_neg (nI_ge g2 (by omega))]
      exact key (Or.inr g2)
    · rw [if_pos (nI_le (by omega) (by omega))]
      refine ⟨_, rfl, ?_, zp_Fr.si (by omega) (by omega)⟩
      unfold zwo
      rw [if_neg (by omega)]
      exact h.t i v
theorem zp_isT {N a i : Nat} {μ : ZM} {T : Tw} (h : CT μ a T) (hg : tg T < 128) (hi : i < 7) : f_X3_isTogether N a (nI i) μ = some (if (tg T).testBit i then 1 else 0, μ) := by
  unfold f_X3_isTogether
  rw [h.2.1]
  by_cases hb : (tg T).testBit i = true
  · rw [if_neg (by rw [zp_and _ hg i hi, hb]; decide), if_pos hb]; rfl
  · rw [if_pos ((zp_and _ hg i hi).mpr (by simpa using hb)), if_neg hb]; rfl
-- the year that passes
def pv (T : Tw) (i : Nat) : Nat := ((tt T i : Int) + wz (decide (kp T = some i)) (decide (sc T = some i)) (tk T i) (ty T) (tt T i)).toNat
theorem pv_le {T : Tw} {i : Nat} (h : tt T i ≤ 19) : pv T i ≤ 25 := by
  have := wz_in (decide (kp T = some i)) (decide (sc T = some i)) (tk T i) (ty T) (tt T i)
  unfold pv
  omega
theorem zp_raw : ∀ t, t < 20 → ∀ z ∈ ([-3, -2, -1, 0, 1, 2, 3, 4, 5, 6] : List Int), (if (0 : Int32) < nI t + Int32.ofInt z then nI t + Int32.ofInt z else 0) = nI ((t : Int) + z).toNat ∧ (if (0 : Int32) ≤ nI t + Int32.ofInt z then nI t + Int32.ofInt z else 0) = nI ((t : Int) + z).toNat := by decide +kernel
theorem zp_rng {z : Int} (h : -3 ≤ z ∧ z ≤ 6) : z ∈ ([-3, -2, -1, 0, 1, 2, 3, 4, 5, 6] : List Int) := by
  have : z = -3 ∨ z = -2 ∨ z = -1 ∨ z = 0 ∨ z = 1 ∨ z = 2 ∨ z = 3 ∨ z = 4 ∨ z = 5 ∨ z = 6 := by omega
  rcases this with rfl | rfl | rfl | rfl | rfl | rfl | rfl | rfl | rfl | rfl <;> decide
abbrev zout (T : Tw) (j : Nat) : Prop := 19 < pv T j ∨ 98 < to_ T j
def gz (T : Tw) : Nat → Nat
  | 0 => tg T
  | m + 1 => if (tg T).testBit m = true ∧ zout T m then zp_clr (gz T m) m else gz T m
def ps (T : Tw) (m : Nat) : Tw := (tn T, gz T m, ty T, td T, tk T, fun j => if j < m ∧ (tg T).testBit j = true then min (tw T j + 1) 99 else tw T j, fun j => if j < m ∧ (tg T).testBit j = true then min (to_ T j + 1) 99 else to_ T j, fun j => if j < m ∧ (tg T).testBit j = true then min (pv T j) 19 else tt T j)
def pass (T : Tw) : Tw := Ty (ps T (tn T)) (ty T + 1)
theorem gz_lt {T : Tw} {B : Nat} (h : tg T < B) : ∀ m, gz T m < B
  | 0 => h
  | m + 1 => by
    unfold gz
    split
    · exact zp_clr_lt (gz_lt h m)
    · exact gz_lt h m
theorem gz_bit {T : Tw} (h : tg T < 128) : ∀ m, m ≤ 7 → ∀ j, j < 7 → (gz T m).testBit j = ((tg T).testBit j && !(decide (j < m) && decide (zout T j)))
  | 0, _, j, _ => by simp [gz]
  | m + 1, hm, j, hj => by
    have ih := gz_bit h m (by omega) j hj
    unfold gz
    by_cases hc : (tg T).testBit m = true ∧ zout T m
    · rw [if_pos hc, zp_clr_bit _ (gz_lt h m) m (by omega) j hj, ih]
      by_cases e : j = m
      · subst e
        simp [hc.2]
      · have e1 : decide (j < m + 1) = decide (j < m) := decide_eq_decide.mpr (by omega)
        rw [e1]
        simp [e]
    · rw [if_neg hc, ih]
      by_cases e : j = m
      · subst e
        by_cases hb : (tg T).testBit j = true
        · have : ¬ zout T j := fun q => hc ⟨hb, q⟩
          simp [this]
        · have hb' : (tg T).testBit j = false := by simpa using hb
          rw [hb']; rfl
      · have e1 : decide (j < m + 1) = decide (j < m) := decide_eq_decide.mpr (by omega)
        rw [e1]
theorem ps_0 (T : Tw) : zp_eq T (ps T 0) := by
  refine ⟨rfl, rfl, rfl, rfl, fun i hi => ⟨rfl, ?_, ?_, ?_⟩⟩ <;> simp [ps]
theorem ps_no {T : Tw} {m : Nat} (h : (tg T).testBit m = false) : zp_eq (ps T m) (ps T (m + 1)) := by
  refine ⟨rfl, ?_, rfl, rfl, fun i hi => ⟨rfl, ?_, ?_, ?_⟩⟩
  · show gz T m = gz T (m + 1)
    simp [gz, h]
  all_goals
    show (if i < m ∧ (tg T).testBit i = true then _ else _) = (if i < m + 1 ∧ (tg T).testBit i = true then _ else _)
    by_cases e : i = m
    · subst e; simp [h]
    · have : (i < m + 1) ↔ (i < m) := by omega
      simp only [this]
theorem ps_yes {T : Tw} {m : Nat} (h : (tg T).testBit m = true) (hm : m < tn T) : zp_eq (zwo (Tol (Twd (ps T m) m (min (tw T m + 1) 99)) m (to_ T m + 1)) m (pv T m)) (ps T (m + 1)) := by
  have hto : to_ (Tol (Twd (ps T m) m (min (tw T m + 1) 99)) m (to_ T m + 1)) m = to_ T m + 1 := upN_s
  unfold zwo
  by_cases hc : 19 < pv T m ∨ 99 < to_ (Tol (Twd (ps T m) m (min (tw T m + 1) 99)) m (to_ T m + 1)) m
  · rw [if_pos hc]
    rw [hto] at hc
    have hz : zout T m := by omega
    refine ⟨rfl, ?_, rfl, rfl, fun i hi => ⟨rfl, ?_, ?_, ?_⟩⟩
    · show zp_clr (gz T m) m = gz T (m + 1)
      simp only [gz]
      rw [if_pos ⟨h, hz⟩]
    · show upN (fun j => if j < m ∧ (tg T).testBit j = true then min (tw T j + 1) 99 else tw T j) m (min (tw T m + 1) 99) i = (if i < m + 1 ∧ (tg T).testBit i = true then min (tw T i + 1) 99 else tw T i)
      by_cases e : i = m
      · subst e; rw [upN_s, if_pos ⟨by omega, h⟩]
      · have : (i < m + 1) ↔ (i < m) := by omega
        rw [upN_n e]; simp only [this]
    · show upN (upN (fun j => if j < m ∧ (tg T).testBit j = true then min (to_ T j + 1) 99 else to_ T j) m (to_ T m + 1)) m _ i = (if i < m + 1 ∧ (tg T).testBit i = true then min (to_ T i + 1) 99 else to_ T i)
      by_cases e : i = m
      · subst e; rw [upN_s, if_pos ⟨by omega, h⟩]
        exact congrArg (fun z => min z 99) upN_s
      · have : (i < m + 1) ↔ (i < m) := by omega
        rw [upN_n e, upN_n e]; simp only [this]
    · show upN (fun j => if j < m ∧ (tg T).testBit j = true then min (pv T j) 19 else tt T j) m (min (pv T m) 19) i = (if i < m + 1 ∧ (tg T).testBit i = true then min (pv T i) 19 else tt T i)
      by_cases e : i = m
      · subst e; rw [upN_s, if_pos ⟨by omega, h⟩]
      · have : (i < m + 1) ↔ (i < m) := by omega
        rw [upN_n e]; simp only [this]
  · rw [if_neg hc]
    rw [hto] at hc
    have hz : ¬ zout T m := by omega
    refine ⟨rfl, ?_, rfl, rfl, fun i hi => ⟨rfl, ?_, ?_, ?_⟩⟩
    · show gz T m = gz T (m + 1)
      simp only [gz]
      rw [if_neg (fun q => hz q.2)]
    · show upN (fun j => if j < m ∧ (tg T).testBit j = true then min (tw T j + 1) 99 else tw T j) m (min (tw T m + 1) 99) i = (if i < m + 1 ∧ (tg T).testBit i = true then min (tw T i + 1) 99 else tw T i)
      by_cases e : i = m
      · subst e; rw [upN_s, if_pos ⟨by omega, h⟩]
      · have : (i < m + 1) ↔ (i < m) := by omega
        rw [upN_n e]; simp only [this]
    · show upN (fun j => if j < m ∧ (tg T).testBit j = true then min (to_ T j + 1) 99 else to_ T j) m (to_ T m + 1) i = (if i < m + 1 ∧ (tg T).testBit i = true then min (to_ T i + 1) 99 else to_ T i)
      by_cases e : i = m
      · subst e; rw [upN_s, if_pos ⟨by omega, h⟩]; omega
      · have : (i < m + 1) ↔ (i < m) := by omega
        rw [upN_n e]; simp only [this]
    · show upN (fun j => if j < m ∧ (tg T).testBit j = true then min (pv T j) 19 else tt T j) m (pv T m) i = (if i < m + 1 ∧ (tg T).testBit i = true then min (pv T i) 19 else tt T i)
      by_cases e : i = m
      · subst e; rw [upN_s, if_pos ⟨by omega, h⟩]; omega
      · have : (i < m + 1) ↔ (i < m) := by omega
        rw [upN_n e]; simp only [this]
