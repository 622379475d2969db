-- PURE: numbers
theorem zp_o {i n : Nat} (h : i < n) (hn : n < 2 ^ 31) : zk_o (nI i) n = false := by
  unfold zk_o
  rw [decide_eq_false_iff_not]
  exact vp_in_nI h hn
theorem zp_z0 (μ : ZM) : zk_zr 0 μ = some (0, μ) := rfl
theorem zp_z1 (μ : ZM) : zk_zr 1 μ = some (1, μ) := rfl
theorem zp_and : ∀ s, s < 128 → ∀ i, i < 7 → ((nI s &&& (1 <<< (nI i &&& 31)) = 0) ↔ s.testBit i = false) := by decide +kernel
def zp_clr (s i : Nat) : Nat := if s.testBit i then s - 2 ^ i else s
def zp_ins (s i : Nat) : Nat := if s.testBit i then s else s + 2 ^ i
theorem zp_clr_e : ∀ s, s < 128 → ∀ i, i < 7 → nI s &&& ((1 <<< (nI i &&& 31)) ^^^ (-1)) = nI (zp_clr s i) := by decide +kernel
theorem zp_ins_e : ∀ s, s < 128 → ∀ i, i < 7 → nI s ||| (1 <<< (nI i &&& 31)) = nI (zp_ins s i) := by decide +kernel
theorem zp_clr_lt {s i m : Nat} (h : s < m) : zp_clr s i < m := by
  unfold zp_clr
  split
  · exact Nat.lt_of_le_of_lt (Nat.sub_le _ _) h
  · exact h
theorem zp_clr_bit : ∀ s, s < 128 → ∀ i, i < 7 → ∀ j, j < 7 → (zp_clr s i).testBit j = (s.testBit j && decide (j ≠ i)) := by decide +kernel
theorem zp_ins_bit : ∀ s, s < 128 → ∀ i, i < 7 → ∀ j, j < 7 → (zp_ins s i).testBit j = (s.testBit j || decide (j = i)) := by decide +kernel
theorem zp_ins_lt : ∀ s, s < 128 → ∀ i, i < 7 → zp_ins s i < 128 := by decide +kernel
theorem zp_ext : ∀ s, s < 128 → ∀ u, u < 128 → (∀ j, j < 7 → s.testBit j = u.testBit j) → s = u := by
  intro s hs u hu h
  apply Nat.eq_of_testBit_eq
  intro j
  by_cases hj : j < 7
  · exact h j hj
  · have h1 : 2 ^ 7 ≤ 2 ^ j := Nat.pow_le_pow_right (by decide) (by omega)
    rw [Nat.testBit_lt_two_pow (Nat.lt_of_lt_of_le hs h1), Nat.testBit_lt_two_pow (Nat.lt_of_lt_of_le hu h1)]
-- a town as a value: couples, who is together (bits), year, draw, kind, wed, old, temper
abbrev Tw : Type := Nat × Nat × Nat × Nat × (Nat → Nat) × (Nat → Nat) × (Nat → Nat) × (Nat → Nat)
abbrev tn (T : Tw) : Nat := T.1
abbrev tg (T : Tw) : Nat := T.2.1
abbrev ty (T : Tw) : Nat := T.2.2.1
abbrev td (T : Tw) : Nat := T.2.2.2.1
abbrev tk (T : Tw) : Nat → Nat := T.2.2.2.2.1
abbrev tw (T : Tw) : Nat → Nat := T.2.2.2.2.2.1
abbrev to_ (T : Tw) : Nat → Nat := T.2.2.2.2.2.2.1
abbrev tt (T : Tw) : Nat → Nat := T.2.2.2.2.2.2.2
def tok (T : Tw) : Prop := tn T ≤ 7 ∧ tg T < 2 ^ tn T ∧ td T < 2 ^ 31 ∧ ∀ i, i < tn T → tk T i ≤ 4 ∧ tw T i ≤ 99 ∧ to_ T i ≤ 99 ∧ tt T i ≤ 19
/-- the town at cell a of the one object holds T -/
def CT (μ : ZM) (a : Nat) (T : Tw) : Prop := μ.1 a 4 = nI (tn T) ∧ μ.1 a 5 = nI (tg T) ∧ μ.1 a 6 = nI (ty T) ∧ μ.1 a 7 = nI (td T) ∧ ∀ i, i < tn T → μ.1 (a + 1) i = nI (tk T i) ∧ μ.1 (a + 2) i = nI (tw T i) ∧ μ.1 (a + 3) i = nI (to_ T i) ∧ μ.1 (a + 4) i = nI (tt T i)
/-- the row r of the other object, from off on, holds T -/
def RT (ν : ZM) (r off : Nat) (T : Tw) : Prop := ν.1 r off = nI (tn T) ∧ ν.1 r (off + 1) = nI (ty T) ∧ ν.1 r (off + 2) = nI (2 ^ tn T - 1 - tg T) ∧ ν.1 r (off + 3) = nI (td T) ∧ ∀ i, i < tn T → ν.1 r (off + 4 + i) = nI (tk T i) ∧ ν.1 r (off + 11 + i) = nI (tw T i) ∧ ν.1 r (off + 18 + i) = nI (to_ T i) ∧ ν.1 r (off + 25 + i) = nI (tt T i)
theorem tok_g {T : Tw} (h : tok T) : tg T < 128 := Nat.lt_of_lt_of_le h.2.1 (Nat.pow_le_pow_right (by omega) h.1)
/-- nothing but the town at a has changed -/
def zp_Fr (a : Nat) (μ μ' : ZM) : Prop := (∀ k, (k < a ∨ a + 4 < k) → μ'.1 k = μ.1 k) ∧ μ'.2 = μ.2
theorem zp_Fr.rf {a : Nat} {μ : ZM} : zp_Fr a μ μ := ⟨fun _ _ => rfl, rfl⟩
theorem zp_Fr.tr {a : Nat} {μ μ1 μ2 : ZM} (h1 : zp_Fr a μ μ1) (h2 : zp_Fr a μ1 μ2) : zp_Fr a μ μ2 := ⟨fun k hk => (h2.1 k hk).trans (h1.1 k hk), h2.2.trans h1.2⟩
theorem zp_Fr.si {a k j : Nat} {v : Int32} {μ : ZM} (h1 : a ≤ k) (h2 : k ≤ a + 4) : zp_Fr a μ (zk_si μ k j v) := ⟨fun q hq => by
  have : q ≠ k := by omega
  simp [zk_si, this], rfl⟩
theorem CT.fr {a a' : Nat} {μ μ' : ZM} {T : Tw} (h : CT μ a T) (f : zp_Fr a' μ μ') (hd : a + 4 < a' ∨ a' + 4 < a) : CT μ' a T := by
  obtain ⟨h1, h2, h3, h4, h5⟩ := h
  have e0 := f.1 a (by omega)
  have e1 := f.1 (a + 1) (by omega)
  have e2 := f.1 (a + 2) (by omega)
  have e3 := f.1 (a + 3) (by omega)
  have e4 := f.1 (a + 4) (by omega)
  unfold CT
  rw [e0, e1, e2, e3, e4]
  exact ⟨h1, h2, h3, h4, h5⟩
-- who is longest wed of a set, of those below m
def lon (w : Nat → Nat) (s : Nat) : Nat → Option Nat
  | 0 => none
  | i + 1 => match lon w s i with
    | none => if s.testBit i then some i else none
    | some b => if s.testBit i ∧ w b < w i then some i else some b
def zp_cd (o : Option Nat) : Int32 := match o with
  | none => -4
  | some i => nI i
theorem lon_lt {w : Nat → Nat} {s : Nat} : ∀ {m b : Nat}, lon w s m = some b → b < m ∧ s.testBit b = true
  | 0, b, h => by cases h
  | m + 1, b, h => by
    unfold lon at h
    cases hm : lon w s m with
    | none =>
      rw [hm] at h
      simp only at h
      split at h
      · cases h
        exact ⟨by omega, by assumption⟩
      · cases h
    | some c =>
      rw [hm] at h
      simp only at h
      have hc := lon_lt hm
      split at h
      · cases h
        rename_i h2
        exact ⟨by omega, h2.1⟩
      · cases h
        exact ⟨by omega, hc.2⟩
theorem zp_cd_neg {o : Option Nat} (h : ∀ b, o = some b → b < 2 ^ 31) : (zp_cd o < 0) ↔ o = none := by
  cases o with
  | none => simp only [zp_cd, iff_true]; decide
  | some b => simp only [zp_cd, reduceCtorEq, iff_false]; exact nI_pos (h b rfl)
theorem zp_longest_L {μ : ZM} {a : Nat} {T : Tw} (h : CT μ a T) (hT : tok T) {s : Nat} (hs : s < 128) (N : Nat) : ∀ (f i : Nat), tn T < i + f → i ≤ tn T → f_X3_longestOf_L5 N f a (nI s) (zp_cd (lon (tw T) s i)) (nI i) μ = some (zp_cd (lon (tw T) s (tn T)), μ)
  | 0, i, hf, hi => absurd hf (by omega)
  | f + 1, i, hf, hi => by
    obtain ⟨h1, h2, h3, h4, h5⟩ := h
    have h7 := hT.1
    unfold f_X3_longestOf_L5
    rw [h1]
    by_cases hin : i < tn T
    · rw [if_neg (nI_ge hin (by omega))]
      have ih := zp_longest_L ⟨h1, h2, h3, h4, h5⟩ hT hs N f (i + 1) (by omega) (by omega)
      rw [← nI_1] at ih
      by_cases hb : s.testBit i = true
      · rw [if_neg (by rw [zp_and s hs i (by omega), hb]; decide)]
        cases hl : lon (tw T) s i with
        | none =>
          have e : lon (tw T) s (i + 1) = some i := by simp [lon, hl, hb]
          rw [e] at ih
          rw [show zp_cd none = (-4 : Int32) from rfl, if_pos (show (-4 : Int32) < 0 by decide)]
          exact ih
        | some b =>
          have hbl := lon_lt hl
          rw [show zp_cd (some b) = nI b from rfl, if_neg (nI_pos (show b < 2 ^ 31 by omega)), zp_o (show i < 7 by omega) (by omega), zp_o (show b < 7 by omega) (by omega), nI_clamp (by omega), nI_clamp (by omega), (h5 i hin).2.1, (h5 b (by omega)).2.1]
          have wi := (hT.2.2.2 i hin).2.1
          have wb := (hT.2.2.2 b (by omega)).2.1
          simp only [Bool.false_eq_true, if_false]
          by_cases hw : tw T b < tw T i
          · rw [if_neg (nI_ge hw (by omega))]
            have e : lon (tw T) s (i + 1) = some i := by simp [lon, hl, hb, hw]
            rw [e] at ih
            exact ih
          · rw [if_pos (nI_le (by omega) (by omega))]
            have e : lon (tw T) s (i + 1) = some b := by simp [lon, hl, hw]
            rw [e] at ih
            exact ih
      · have hb' : s.testBit i = false := by simpa using hb
        rw [if_pos ((zp_and s hs i (by omega)).mpr hb')]
        have e : lon (tw T) s (i + 1) = lon (tw T) s i := by
          cases hl : lon (tw T) s i <;> simp [lon, hl, hb']
        rw [e] at ih
        exact ih
    · have : i = tn T := by omega
      subst this
      rw [if_pos (nI_le (Nat.le_refl _) (by omega))]
theorem zp_longest {μ : ZM} {a : Nat} {T : Tw} (h : CT μ a T) (hT : tok T) {s : Nat} (hs : s < 128) {N : Nat} (hN : 8 ≤ N) : f_X3_longestOf N a (nI s) μ = some (zp_cd (lon (tw T) s (tn T)), μ) := by
  have h7 := hT.1
  exact zp_longest_L h hT hs N N 0 (by omega) (by omega)
