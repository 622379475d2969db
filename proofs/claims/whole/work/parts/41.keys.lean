-- who has the keys, on both sides
def zp_best (w : Nat → Nat) (s a n : Nat) (o : Option Nat) : Prop := match o with
  | none => ∀ j, a ≤ j → j < n → s.testBit j = false
  | some b => a ≤ b ∧ b < n ∧ s.testBit b = true ∧ ∀ j, a ≤ j → j < n → s.testBit j = true → w j ≤ w b ∧ (j < b → w j < w b)
theorem zp_best_one {w : Nat → Nat} {s a n : Nat} {o u : Option Nat} (h : zp_best w s a n o) (g : zp_best w s a n u) : o = u := by
  cases o with
  | none =>
    cases u with
    | none => rfl
    | some c =>
      have := h c g.1 g.2.1
      rw [g.2.2.1] at this
      cases this
  | some b =>
    cases u with
    | none =>
      have := g b h.1 h.2.1
      rw [h.2.2.1] at this
      cases this
    | some c =>
      obtain ⟨h1, h2, h3, h4⟩ := h
      obtain ⟨g1, g2, g3, g4⟩ := g
      have k1 := h4 c g1 g2 g3
      have k2 := g4 b h1 h2 h3
      have : b = c := by
        rcases Nat.lt_trichotomy b c with q | q | q
        · have := k2.2 q; omega
        · exact q
        · have := k1.2 q; omega
      rw [this]
theorem lon_best (w : Nat → Nat) (s : Nat) : ∀ n, zp_best w s 0 n (lon w s n)
  | 0 => fun j _ h => absurd h (Nat.not_lt_zero j)
  | n + 1 => by
    have ih := lon_best w s n
    unfold lon
    cases hl : lon w s n with
    | none =>
      rw [hl] at ih
      simp only
      by_cases hb : s.testBit n = true
      · rw [if_pos hb]
        refine ⟨Nat.zero_le _, by omega, hb, fun j _ hj hbj => ?_⟩
        by_cases e : j = n
        · subst e; exact ⟨Nat.le_refl _, fun q => absurd q (by omega)⟩
        · have := ih j (Nat.zero_le _) (by omega)
          rw [this] at hbj; cases hbj
      · rw [if_neg hb]
        intro j _ hj
        by_cases e : j = n
        · subst e; simpa using hb
        · exact ih j (Nat.zero_le _) (by omega)
    | some b =>
      rw [hl] at ih
      obtain ⟨h1, h2, h3, h4⟩ := ih
      simp only
      by_cases hb : s.testBit n = true ∧ w b < w n
      · rw [if_pos hb]
        refine ⟨Nat.zero_le _, by omega, hb.1, fun j _ hj hbj => ?_⟩
        by_cases e : j = n
        · subst e; exact ⟨Nat.le_refl _, fun q => absurd q (by omega)⟩
        · have := (h4 j (Nat.zero_le _) (by omega) hbj).1
          exact ⟨by omega, fun _ => by omega⟩
      · rw [if_neg hb]
        refine ⟨Nat.zero_le _, by omega, h3, fun j _ hj hbj => ?_⟩
        by_cases e : j = n
        · subst e
          have : ¬ w b < w j := fun q => hb ⟨hbj, q⟩
          exact ⟨by omega, fun q => absurd q (by omega)⟩
        · exact h4 j (Nat.zero_le _) (by omega) hbj
def zp_ds (w : Nat → Nat) (s i : Nat) (o : Option Nat) : Option Nat := match o with
  | none => if s.testBit i then some i else none
  | some b => if s.testBit i ∧ w b ≤ w i then some i else some b
theorem zp_ds_no {w : Nat → Nat} {s i : Nat} {o : Option Nat} (h : s.testBit i = false) : zp_ds w s i o = o := by
  cases o <;> simp [zp_ds, h]
def zp_dn (w : Nat → Nat) (s : Nat) : Nat → Option Nat → Option Nat
  | 0, o => o
  | i + 1, o => zp_dn w s i (zp_ds w s i o)
theorem zp_dn_best (w : Nat → Nat) (s n : Nat) : ∀ (i : Nat) (o : Option Nat), i ≤ n → zp_best w s i n o → zp_best w s 0 n (zp_dn w s i o)
  | 0, o, _, h => h
  | i + 1, o, hi, h => by
    unfold zp_dn
    refine zp_dn_best w s n i _ (by omega) ?_
    unfold zp_ds
    cases o with
    | none =>
      simp only
      by_cases hb : s.testBit i = true
      · rw [if_pos hb]
        refine ⟨Nat.le_refl _, by omega, hb, fun j h1 hj hbj => ?_⟩
        by_cases e : j = i
        · subst e; exact ⟨Nat.le_refl _, fun q => absurd q (by omega)⟩
        · have := h j (by omega) hj
          rw [this] at hbj; cases hbj
      · rw [if_neg hb]
        intro j h1 hj
        by_cases e : j = i
        · subst e; simpa using hb
        · exact h j (by omega) hj
    | some b =>
      obtain ⟨h1, h2, h3, h4⟩ := h
      simp only
      by_cases hb : s.testBit i = true ∧ w b ≤ w i
      · rw [if_pos hb]
        refine ⟨Nat.le_refl _, by omega, hb.1, fun j g1 hj hbj => ?_⟩
        by_cases e : j = i
        · subst e; exact ⟨Nat.le_refl _, fun q => absurd q (by omega)⟩
        · have := (h4 j (by omega) hj hbj).1
          exact ⟨by omega, fun q => absurd q (by omega)⟩
      · rw [if_neg hb]
        refine ⟨by omega, h2, h3, fun j g1 hj hbj => ?_⟩
        by_cases e : j = i
        · subst e
          have : ¬ w b ≤ w j := fun q => hb ⟨hbj, q⟩
          exact ⟨by omega, fun _ => by omega⟩
        · exact h4 j (by omega) hj hbj
theorem zp_dn_lon (w : Nat → Nat) (s n : Nat) : zp_dn w s n none = lon w s n :=
  zp_best_one (zp_dn_best w s n n none (Nat.le_refl _) (fun j h1 h2 => absurd h2 (by omega))) (lon_best w s n)
-- parted: the other set
theorem zq_cmp : ∀ n, n < 8 → ∀ g, g < 2 ^ n → ∀ i, i < n → (2 ^ n - 1 - g).testBit i = !g.testBit i := by decide +kernel
theorem zq_cmp_lt {n g : Nat} (hn : n ≤ 7) : 2 ^ n - 1 - g < 128 := by
  have : 2 ^ n ≤ 2 ^ 7 := Nat.pow_le_pow_right (by decide) hn
  omega
theorem zq_has_e : ∀ p, p < 128 → ∀ i, i < 7 → (((nI p >>> (nI i &&& 31)) &&& 1) = 1 ↔ p.testBit i = true) := by decide +kernel
theorem zq_has {N p i : Nat} {ν : ZM} (hp : p < 128) (hi : i < 7) : f_X5_has N (nI p) (nI i) ν = some (if p.testBit i then 1 else 0, ν) := by
  unfold f_X5_has
  by_cases h : p.testBit i = true
  · rw [if_neg (fun q => q ((zq_has_e p hp i hi).mpr h)), if_pos h]; rfl
  · rw [if_pos (fun q => h ((zq_has_e p hp i hi).mp q)), if_neg h]; rfl
theorem zq_parted {N r i : Nat} {ν : ZM} {T : Tw} (h : RT ν r 0 T) (hT : tok T) (hi : i < tn T) : f_X5_isParted N r (nI i) ν = some (if (tg T).testBit i then 0 else 1, ν) := by
  have h7 := hT.1
  unfold f_X5_isParted
  have e : ν.1 r 2 = nI (2 ^ tn T - 1 - tg T) := h.2.2.1
  rw [e, zq_has (zq_cmp_lt h7) (by omega), zq_cmp (tn T) (by omega) (tg T) hT.2.1 i hi]
  by_cases hb : (tg T).testBit i = true
  · simp only [hb]; rfl
  · have hb' : (tg T).testBit i = false := by simpa using hb
    simp only [hb']; rfl
/-- a set but one -/
def zp_but (s : Nat) (o : Option Nat) : Nat := match o with
  | none => s
  | some k => zp_clr s k
theorem zp_but_bit {s i : Nat} {o : Option Nat} (hs : s < 128) (hi : i < 7) (ho : ∀ k, o = some k → k < 7) : (zp_but s o).testBit i = (s.testBit i && decide (o ≠ some i)) := by
  cases o with
  | none => simp [zp_but]
  | some k =>
    unfold zp_but
    rw [zp_clr_bit s hs k (ho k rfl) i hi]
    have : decide (i ≠ k) = decide (some k ≠ some i) := by
      by_cases e : i = k
      · subst e; simp
      · have : ¬ k = i := fun q => e q.symm
        simp [e, this]
    rw [this]
theorem zp_cd_ne {i : Nat} (hi : i < 7) : ¬ nI i = -4 := by
  have : ∀ i, i < 7 → ¬ nI i = -4 := by decide +kernel
  exact this i hi
theorem zp_cd_eq {i : Nat} {o : Option Nat} (hi : i < 7) (ho : ∀ k, o = some k → k < 7) : (nI i = zp_cd o) ↔ o = some i := by
  cases o with
  | none => exact ⟨fun q => absurd q (zp_cd_ne hi), fun q => by cases q⟩
  | some k =>
    have hk := ho k rfl
    show nI i = nI k ↔ _
    rw [nI_eq (by omega) (by omega)]
    exact ⟨fun q => by rw [q], fun q => by cases q; rfl⟩
theorem zq_longest_L {ν : ZM} {r : Nat} {T : Tw} (h : RT ν r 0 T) (hT : tok T) {but : Option Nat} (hbut : ∀ k, but = some k → k < 7) (N : Nat) : ∀ (f i : Nat) (o : Option Nat), i < f → i ≤ tn T → (∀ b, o = some b → b < tn T) → f_X5_longest_L9 N f r (zp_cd but) (zp_cd o) (nI i - 1) ν = some (zp_cd (zp_dn (tw T) (zp_but (tg T) but) i o), ν)
  | 0, i, o, hf, _, _ => absurd hf (Nat.not_lt_zero _)
  | f + 1, 0, o, hf, hi, ho => by
    unfold f_X5_longest_L9
    rw [if_pos (by decide)]
    rfl
  | f + 1, i + 1, o, hf, hi, ho => by
    have h7 := hT.1
    have h5 := h.2.2.2.2
    have hg := tok_g hT
    unfold f_X5_longest_L9
    rw [nI_pred, if_neg (nI_pos (by omega)), zq_parted h hT (by omega)]
    simp only [Option.bind_some]
    have e1 : nI i + (-1) = nI i - 1 := by rw [Int32.sub_eq_add_neg]
    have hbb := zp_but_bit (s := tg T) (i := i) hg (by omega) hbut
    have ih0 := zq_longest_L h hT hbut N f i o (by omega) (by omega) ho
    have ih1 := zq_longest_L h hT hbut N f i (some i) (by omega) (by omega) (fun b hb => by cases hb; omega)
    rw [e1]
    unfold zp_dn
    by_cases hb : (tg T).testBit i = true
    · rw [if_pos hb, if_neg (show ¬ ¬ (0 : Int32) = 0 by decide)]
      by_cases hq : but = some i
      · rw [if_pos ((zp_cd_eq (by omega) hbut).mpr hq), if_pos trivial]
        have hb0 : (zp_but (tg T) but).testBit i = false := by rw [hbb, hq]; simp
        rw [zp_ds_no hb0]
        exact ih0
      · rw [if_neg (fun q => hq ((zp_cd_eq (by omega) hbut).mp q)), if_neg (by decide)]
        have hb1 : (zp_but (tg T) but).testBit i = true := by rw [hbb, hb]; simp [hq]
        cases o with
        | none =>
          rw [show zp_cd none = (-4 : Int32) from rfl, if_pos rfl]
          rw [show zp_ds (tw T) (zp_but (tg T) but) i none = some i by simp [zp_ds, hb1]]
          exact ih1
        | some b =>
          have hbn := ho b rfl
          rw [show zp_cd (some b) = nI b from rfl, if_neg (zp_cd_ne (by omega)), show (11 : Int32) = nI 11 from rfl, nI_add, nI_add, zp_o (show 11 + i < 32 by omega) (by omega), zp_o (show 11 + b < 32 by omega) (by omega), nI_clamp (by omega), nI_clamp (by omega)]
          have wi : ν.1 r (11 + i) = nI (tw T i) := by have := (h5 i (by omega)).2.1; rwa [Nat.zero_add] at this
          have wb : ν.1 r (11 + b) = nI (tw T b) := by have := (h5 b hbn).2.1; rwa [Nat.zero_add] at this
          have wi9 := (hT.2.2.2 i (by omega)).2.1
          have wb9 := (hT.2.2.2 b hbn).2.1
          rw [wi, wb]
          simp only [Bool.false_eq_true, if_false]
          by_cases hw : tw T b ≤ tw T i
          · rw [if_neg (nI_nlt hw (by omega)), show zp_ds (tw T) (zp_but (tg T) but) i (some b) = some i by simp [zp_ds, hb1, hw]]
            exact ih1
          · rw [if_pos (nI_lt (by omega) (by omega)), show zp_ds (tw T) (zp_but (tg T) but) i (some b) = some b by simp [zp_ds, hw]]
            exact ih0
    · have hb' : (tg T).testBit i = false := by simpa using hb
      rw [if_neg hb, if_pos (show ¬ (1 : Int32) = 0 by decide), if_pos trivial]
      have hb0 : (zp_but (tg T) but).testBit i = false := by rw [hbb, hb']; rfl
      rw [zp_ds_no hb0]
      exact ih0
def kp (T : Tw) : Option Nat := lon (tw T) (tg T) (tn T)
def sc (T : Tw) : Option Nat := match kp T with
  | none => none
  | some k => lon (tw T) (zp_clr (tg T) k) (tn T)
theorem kp_lt {T : Tw} {b : Nat} (h : kp T = some b) : b < tn T ∧ (tg T).testBit b = true := lon_lt h
theorem sc_lt {T : Tw} {b : Nat} (h : sc T = some b) : b < tn T := by
  unfold sc at h
  split at h
  · cases h
  · exact (lon_lt h).1
theorem zq_keys {N r : Nat} {ν : ZM} {T : Tw} (hN : 8 ≤ N) (h : RT ν r 0 T) (hT : tok T) : f_X5_keysOf N r ν = some (zp_cd (kp T), ν) := by
  have h7 := hT.1
  have e := zq_longest_L h hT (but := none) (fun k hk => by cases hk) N N (tn T) none (by omega) (Nat.le_refl _) (fun b hb => by cases hb)
  rw [zp_dn_lon] at e
  unfold f_X5_keysOf f_X5_longest
  have h0 : ν.1 r 0 = nI (tn T) := h.1
  rw [h0]
  exact (congrArg (fun z => Option.bind z (fun r1 : Int32 × ZM => some (r1.1, r1.2))) e)
theorem zq_second {N r : Nat} {ν : ZM} {T : Tw} (hN : 8 ≤ N) (h : RT ν r 0 T) (hT : tok T) : f_X5_secondOf N r ν = some (zp_cd (sc T), ν) := by
  have h7 := hT.1
  unfold f_X5_secondOf
  rw [zq_keys hN h hT]
  simp only [Option.bind_some]
  unfold sc
  cases hk : kp T with
  | none => rfl
  | some k =>
    have hkl := kp_lt hk
    have e := zq_longest_L h hT (but := some k) (fun j hj => by cases hj; omega) N N (tn T) none (by omega) (Nat.le_refl _) (fun b hb => by cases hb)
    rw [zp_dn_lon] at e
    rw [show zp_cd (some k) = nI k from rfl, if_pos (zp_cd_ne (by omega))]
    unfold f_X5_longest
    have h0 : ν.1 r 0 = nI (tn T) := h.1
    rw [h0]
    exact (congrArg (fun z => Option.bind z (fun r1 : Int32 × ZM => some (r1.1, r1.2))) e)
theorem zp_keeper {N a : Nat} {μ : ZM} {T : Tw} (hN : 8 ≤ N) (h : CT μ a T) (hT : tok T) : f_X3_keeper N a μ = some (zp_cd (kp T), μ) := by
  unfold f_X3_keeper
  rw [h.2.1, zp_longest h hT (tok_g hT) hN]
  rfl
theorem zp_second {N a : Nat} {μ : ZM} {T : Tw} (hN : 8 ≤ N) (h : CT μ a T) (hT : tok T) : f_X3_secondTo N a (zp_cd (kp T)) μ = some (zp_cd (sc T), μ) := by
  have h7 := hT.1
  unfold f_X3_secondTo sc
  cases hk : kp T with
  | none => rfl
  | some k =>
    have hkl := kp_lt hk
    rw [show zp_cd (some k) = nI k from rfl, if_pos (nI_pos' (by omega)), h.2.1, zp_clr_e (tg T) (tok_g hT) k (by omega), zp_longest h hT (zp_clr_lt (tok_g hT)) hN]
    rfl
