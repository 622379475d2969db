-- passOn of the reference
def zq_Fr (r : Nat) (ν ν' : ZM) : Prop := (∀ k, k ≠ r → k ≠ 6 → ν'.1 k = ν.1 k) ∧ ν'.2 = ν.2
theorem zq_Fr.rf {r : Nat} {ν : ZM} : zq_Fr r ν ν := ⟨fun _ _ _ => rfl, rfl⟩
theorem zq_Fr.tr {r : Nat} {ν ν1 ν2 : ZM} (h1 : zq_Fr r ν ν1) (h2 : zq_Fr r ν1 ν2) : zq_Fr r ν ν2 := ⟨fun k hk h6 => (h2.1 k hk h6).trans (h1.1 k hk h6), h2.2.trans h1.2⟩
theorem zq_Fr.si {r j : Nat} {v : Int32} {ν : ZM} : zq_Fr r ν (zk_si ν r j v) := ⟨fun q hq _ => by simp [zk_si, hq], rfl⟩
theorem zq_Fr.s6 {r j : Nat} {v : Int32} {ν : ZM} : zq_Fr r ν (zk_si ν 6 j v) := ⟨fun q _ hq => by simp [zk_si, hq], rfl⟩
theorem RT.fr {r off : Nat} {ν ν' : ZM} {T : Tw} (h : RT ν r off T) (e : ν'.1 r = ν.1 r) : RT ν' r off T := by
  unfold RT
  rw [e]
  exact h
theorem RT.g {ν : ZM} {r : Nat} {T : Tw} (h : RT ν r 0 T) (g : Nat) : RT (zk_si ν r 2 (nI (2 ^ tn T - 1 - g))) r 0 (Tg T g) := by
  obtain ⟨h1, h2, h3, h4, h5⟩ := h
  refine ⟨by rw [zp_sk (by omega)]; exact h1, by rw [zp_sk (by omega)]; exact h2, zp_ss, by rw [zp_sk (by omega)]; exact h4, fun i hi => ?_⟩
  rw [zp_sk (by omega), zp_sk (by omega), zp_sk (by omega), zp_sk (by omega)]
  exact h5 i hi
theorem RT.y {ν : ZM} {r : Nat} {T : Tw} (h : RT ν r 0 T) (y : Nat) : RT (zk_si ν r 1 (nI y)) r 0 (Ty T y) := by
  obtain ⟨h1, h2, h3, h4, h5⟩ := h
  refine ⟨by rw [zp_sk (by omega)]; exact h1, zp_ss, by rw [zp_sk (by omega)]; exact h3, by rw [zp_sk (by omega)]; exact h4, fun i hi => ?_⟩
  rw [zp_sk (by omega), zp_sk (by omega), zp_sk (by omega), zp_sk (by omega)]
  exact h5 i hi
theorem RT.d {ν : ZM} {r : Nat} {T : Tw} (h : RT ν r 0 T) (d : Nat) : RT (zk_si ν r 3 (nI d)) r 0 (Td T d) := by
  obtain ⟨h1, h2, h3, h4, h5⟩ := h
  refine ⟨by rw [zp_sk (by omega)]; exact h1, by rw [zp_sk (by omega)]; exact h2, by rw [zp_sk (by omega)]; exact h3, zp_ss, fun i hi => ?_⟩
  rw [zp_sk (by omega), zp_sk (by omega), zp_sk (by omega), zp_sk (by omega)]
  exact h5 i hi
theorem zq_upc {ν : ZM} {r b : Nat} {f : Nat → Nat} {i v j : Nat} (h : ν.1 r (b + j) = nI (f j)) : (zk_si ν r (b + i) (nI v)).1 r (b + j) = nI (upN f i v j) := by
  by_cases e : j = i
  · subst e; rw [zp_ss, upN_s]
  · rw [zp_sk (Or.inr (by omega)), upN_n e]; exact h
theorem RT.k {ν : ZM} {r : Nat} {T : Tw} (h : RT ν r 0 T) (h7 : tn T ≤ 7) {i : Nat} (hi : i < 7) (v : Nat) : RT (zk_si ν r (4 + i) (nI v)) r 0 (Tkd T i v) := by
  obtain ⟨h1, h2, h3, h4, h5⟩ := h
  refine ⟨by rw [zp_sk (by omega)]; exact h1, by rw [zp_sk (by omega)]; exact h2, by rw [zp_sk (by omega)]; exact h3, by rw [zp_sk (by omega)]; exact h4, fun j hj => ?_⟩
  have hj : j < tn T := hj
  have q := h5 j hj
  rw [Nat.zero_add, Nat.zero_add, Nat.zero_add, Nat.zero_add] at q ⊢
  refine ⟨zq_upc q.1, ?_⟩
  rw [zp_sk (by omega), zp_sk (by omega), zp_sk (by omega)]
  exact q.2
theorem RT.w {ν : ZM} {r : Nat} {T : Tw} (h : RT ν r 0 T) (h7 : tn T ≤ 7) {i : Nat} (hi : i < 7) (v : Nat) : RT (zk_si ν r (11 + i) (nI v)) r 0 (Twd T i v) := by
  obtain ⟨h1, h2, h3, h4, h5⟩ := h
  refine ⟨by rw [zp_sk (by omega)]; exact h1, by rw [zp_sk (by omega)]; exact h2, by rw [zp_sk (by omega)]; exact h3, by rw [zp_sk (by omega)]; exact h4, fun j hj => ?_⟩
  have hj : j < tn T := hj
  have q := h5 j hj
  rw [Nat.zero_add, Nat.zero_add, Nat.zero_add, Nat.zero_add] at q ⊢
  refine ⟨?_, zq_upc q.2.1, ?_⟩
  · rw [zp_sk (by omega)]; exact q.1
  · rw [zp_sk (by omega), zp_sk (by omega)]
    exact q.2.2
theorem RT.o {ν : ZM} {r : Nat} {T : Tw} (h : RT ν r 0 T) (h7 : tn T ≤ 7) {i : Nat} (hi : i < 7) (v : Nat) : RT (zk_si ν r (18 + i) (nI v)) r 0 (Tol T i v) := by
  obtain ⟨h1, h2, h3, h4, h5⟩ := h
  refine ⟨by rw [zp_sk (by omega)]; exact h1, by rw [zp_sk (by omega)]; exact h2, by rw [zp_sk (by omega)]; exact h3, by rw [zp_sk (by omega)]; exact h4, fun j hj => ?_⟩
  have hj : j < tn T := hj
  have q := h5 j hj
  rw [Nat.zero_add, Nat.zero_add, Nat.zero_add, Nat.zero_add] at q ⊢
  refine ⟨?_, ?_, zq_upc q.2.2.1, ?_⟩
  · rw [zp_sk (by omega)]; exact q.1
  · rw [zp_sk (by omega)]; exact q.2.1
  · rw [zp_sk (by omega)]; exact q.2.2.2
theorem RT.t {ν : ZM} {r : Nat} {T : Tw} (h : RT ν r 0 T) (h7 : tn T ≤ 7) {i : Nat} (hi : i < 7) (v : Nat) : RT (zk_si ν r (25 + i) (nI v)) r 0 (Ttm T i v) := by
  obtain ⟨h1, h2, h3, h4, h5⟩ := h
  refine ⟨by rw [zp_sk (by omega)]; exact h1, by rw [zp_sk (by omega)]; exact h2, by rw [zp_sk (by omega)]; exact h3, by rw [zp_sk (by omega)]; exact h4, fun j hj => ?_⟩
  have hj : j < tn T := hj
  have q := h5 j hj
  rw [Nat.zero_add, Nat.zero_add, Nat.zero_add, Nat.zero_add] at q ⊢
  refine ⟨?_, ?_, ?_, zq_upc q.2.2.2⟩
  · rw [zp_sk (by omega)]; exact q.1
  · rw [zp_sk (by omega)]; exact q.2.1
  · rw [zp_sk (by omega)]; exact q.2.2.1
theorem zq_ins : ∀ n, n < 8 → ∀ g, g < 2 ^ n → ∀ i, i < n → zp_ins (2 ^ n - 1 - g) i = 2 ^ n - 1 - zp_clr g i := by decide +kernel
theorem zq_clr : ∀ n, n < 8 → ∀ g, g < 2 ^ n → ∀ i, i < n → zp_clr (2 ^ n - 1 - g) i = 2 ^ n - 1 - zp_ins g i := by decide +kernel
theorem zq_at {ν : ZM} {r i : Nat} {T : Tw} (h : RT ν r 0 T) (hi : i < tn T) : ν.1 r (4 + i) = nI (tk T i) ∧ ν.1 r (11 + i) = nI (tw T i) ∧ ν.1 r (18 + i) = nI (to_ T i) ∧ ν.1 r (25 + i) = nI (tt T i) := by
  have q := h.2.2.2.2 i hi
  rwa [Nat.zero_add, Nat.zero_add, Nat.zero_add, Nat.zero_add] at q
/-- the temper that comes, as it is kept aside -/
def pn (T : Tw) (j : Nat) : Nat := if (tg T).testBit j = true then pv T j else tt T j
theorem zq_isP {N r i : Nat} {ν : ZM} {T : Tw} (h : RT ν r 0 T) (h7 : tn T ≤ 7) (hg : tg T < 2 ^ tn T) (hi : i < tn T) : f_X5_isParted N r (nI i) ν = some (if (tg T).testBit i then 0 else 1, ν) := by
  unfold f_X5_isParted
  have e : ν.1 r 2 = nI (2 ^ tn T - 1 - tg T) := h.2.2.1
  rw [e, zq_has (zq_cmp_lt h7) (by omega), zq_cmp (tn T) (by omega) (tg T) hg i hi]
  by_cases hb : (tg T).testBit i = true
  · simp only [hb]; rfl
  · have hb' : (tg T).testBit i = false := by simpa using hb
    simp only [hb']; rfl
theorem ps_yes2 {T : Tw} {m : Nat} (h : (tg T).testBit m = true) (hm : m < tn T) (hc : zout T m) : zp_eq (Tol (Ttm (Tg (Tol (Twd (Ttm (ps T m) m (pv T m)) m (min (tw T m + 1) 99)) m (to_ T m + 1)) (zp_clr (gz T m) m)) m (min (pv T m) 19)) m (min (to_ T m + 1) 99)) (ps T (m + 1)) := by
  refine ⟨rfl, ?_, rfl, rfl, fun i hi => ⟨rfl, ?_, ?_, ?_⟩⟩
  · show zp_clr (gz T m) m = gz T (m + 1)
    simp only [gz]
    rw [if_pos ⟨h, hc⟩]
  · show upN (fun j => if j < m ∧ (tg T).testBit j = true then min (tw T j + 1) 99 else tw T j) m (min (tw T m + 1) 99) i = (if i < m + 1 ∧ (tg T).testBit i = true then min (tw T i + 1) 99 else tw T i)
    by_cases e : i = m
    · subst e; rw [upN_s, if_pos ⟨by omega, h⟩]
    · have : (i < m + 1) ↔ (i < m) := by omega
      rw [upN_n e]; simp only [this]
  · show upN (upN (fun j => if j < m ∧ (tg T).testBit j = true then min (to_ T j + 1) 99 else to_ T j) m (to_ T m + 1)) m (min (to_ T m + 1) 99) i = (if i < m + 1 ∧ (tg T).testBit i = true then min (to_ T i + 1) 99 else to_ T i)
    by_cases e : i = m
    · subst e; rw [upN_s, if_pos ⟨by omega, h⟩]
    · have : (i < m + 1) ↔ (i < m) := by omega
      rw [upN_n e, upN_n e]; simp only [this]
  · show upN (upN (fun j => if j < m ∧ (tg T).testBit j = true then min (pv T j) 19 else tt T j) m (pv T m)) m (min (pv T m) 19) i = (if i < m + 1 ∧ (tg T).testBit i = true then min (pv T i) 19 else tt T i)
    by_cases e : i = m
    · subst e; rw [upN_s, if_pos ⟨by omega, h⟩]
    · have : (i < m + 1) ↔ (i < m) := by omega
      rw [upN_n e, upN_n e]; simp only [this]
theorem ps_yes3 {T : Tw} {m : Nat} (h : (tg T).testBit m = true) (hm : m < tn T) (hc : ¬ zout T m) : zp_eq (Tol (Twd (Ttm (ps T m) m (pv T m)) m (min (tw T m + 1) 99)) m (to_ T m + 1)) (ps T (m + 1)) := by
  refine ⟨rfl, ?_, rfl, rfl, fun i hi => ⟨rfl, ?_, ?_, ?_⟩⟩
  · show gz T m = gz T (m + 1)
    simp only [gz]
    rw [if_neg (fun q => hc q.2)]
  · show upN (fun j => if j < m ∧ (tg T).testBit j = true then min (tw T j + 1) 99 else tw T j) m (min (tw T m + 1) 99) i = (if i < m + 1 ∧ (tg T).testBit i = true then min (tw T i + 1) 99 else tw T i)
    by_cases e : i = m
    · subst e; rw [upN_s, if_pos ⟨by omega, h⟩]
    · have : (i < m + 1) ↔ (i < m) := by omega
      rw [upN_n e]; simp only [this]
  · show upN (fun j => if j < m ∧ (tg T).testBit j = true then min (to_ T j + 1) 99 else to_ T j) m (to_ T m + 1) i = (if i < m + 1 ∧ (tg T).testBit i = true then min (to_ T i + 1) 99 else to_ T i)
    by_cases e : i = m
    · subst e; rw [upN_s, if_pos ⟨by omega, h⟩]; omega
    · have : (i < m + 1) ↔ (i < m) := by omega
      rw [upN_n e]; simp only [this]
  · show upN (fun j => if j < m ∧ (tg T).testBit j = true then min (pv T j) 19 else tt T j) m (pv T m) i = (if i < m + 1 ∧ (tg T).testBit i = true then min (pv T i) 19 else tt T i)
    by_cases e : i = m
    · subst e; rw [upN_s, if_pos ⟨by omega, h⟩]; omega
    · have : (i < m + 1) ↔ (i < m) := by omega
      rw [upN_n e]; simp only [this]
set_option maxHeartbeats 2000000 in
theorem zq_year_L {N r : Nat} {T : Tw} (hr : r ≠ 6) (hT : tok T) (hy : ty T < 2 ^ 30) : ∀ (f m : Nat) (ν : ZM), tn T < m + f → m ≤ tn T → RT ν r 0 (ps T m) → (∀ j, j < tn T → ν.1 6 j = nI (pn T j)) → ∃ ν', f_X5_passOn_L62 N f 0 r (nI m) ν = some ν' ∧ RT ν' r 0 (pass T) ∧ zq_Fr r ν ν'
  | 0, m, ν, hf, hm, h, h6 => absurd hf (by omega)
  | f + 1, m, ν, hf, hm, h, h6 => by
    have h7 := hT.1
    have hg := tok_g hT
    unfold f_X5_passOn_L62
    have h1 : ν.1 r 0 = nI (tn T) := h.1
    rw [h1]
    by_cases hin : m < tn T
    · rw [if_neg (nI_ge hin (by omega))]
      have m7 : m < 7 := by omega
      have hgz : gz T m < 2 ^ tn T := gz_lt hT.2.1 m
      rw [zq_isP h h7 hgz hin]
      simp only [Option.bind_some]
      have hbit : (tg (ps T m)).testBit m = (tg T).testBit m := by
        show (gz T m).testBit m = _
        rw [gz_bit hg m (by omega) m m7]
        simp
      rw [hbit, nI_1]
      by_cases hb : (tg T).testBit m = true
      · obtain ⟨b1, b2, b3, b4⟩ := hT.2.2.2 m hin
        obtain ⟨p1, p2, p3, p4⟩ := ps_at (T := T) (m := m)
        have pv25 := pv_le (T := T) b4
        obtain ⟨a1, a2, a3, a4⟩ := zq_at h hin
        rw [p2] at a2
        rw [p3] at a3
        have en : ν.1 (0 + 6) m = nI (pv T m) := by rw [Nat.zero_add, h6 m hin, pn, if_pos hb]
        rw [if_pos hb, if_neg (show ¬ ¬ (0 : Int32) = 0 by decide), show (25 : Int32) = nI 25 from rfl, show (11 : Int32) = nI 11 from rfl, show (18 : Int32) = nI 18 from rfl, nI_add, nI_add, nI_add]
        simp only [zp_o m7 (show 7 < 2 ^ 31 by omega), zp_o (show 25 + m < 32 by omega) (show 32 < 2 ^ 31 by omega), zp_o (show 11 + m < 32 by omega) (show 32 < 2 ^ 31 by omega), zp_o (show 18 + m < 32 by omega) (show 32 < 2 ^ 31 by omega), nI_clamp (show m < 2 ^ 31 by omega), nI_clamp (show 25 + m < 2 ^ 31 by omega), nI_clamp (show 11 + m < 2 ^ 31 by omega), nI_clamp (show 18 + m < 2 ^ 31 by omega), Bool.false_eq_true, if_false]
        rw [en]
        have c1 := h.t h7 m7 (pv T m)
        have w1 : (zk_si ν r (25 + m) (nI (pv T m))).1 r (11 + m) = nI (tw T m) := by rw [zp_sk (by omega)]; exact a2
        rw [w1]
        have fin : ∀ ν9 : ZM, RT ν9 r 0 (ps T (m + 1)) → ν9.1 6 = ν.1 6 → zq_Fr r ν ν9 → ∃ ν', f_X5_passOn_L62 N f 0 r (nI (m + 1)) ν9 = some ν' ∧ RT ν' r 0 (pass T) ∧ zq_Fr r ν ν' := by
          intro ν9 k1 k2 k3
          obtain ⟨ν', f1, f2, f3⟩ := zq_year_L hr hT hy f (m + 1) ν9 (by omega) (by omega) k1 (fun j hj => by rw [k2]; exact h6 j hj)
          exact ⟨ν', f1, f2, k3.tr f3⟩
        by_cases hw : 99 ≤ tw T m
        · rw [if_pos (show (99 : Int32) ≤ nI (tw T m) from nI_le (a := 99) hw (by omega)), show nI (tw T m) + 0 = nI (min (tw T m + 1) 99) by rw [Nat.min_eq_right (by omega), show tw T m = 99 by omega]; decide]
          have c2 := c1.w h7 m7 (min (tw T m + 1) 99)
          have o1 : (zk_si (zk_si ν r (25 + m) (nI (pv T m))) r (11 + m) (nI (min (tw T m + 1) 99))).1 r (18 + m) = nI (to_ T m) := by rw [zp_sk (by omega), zp_sk (by omega)]; exact a3
          rw [o1, nI_1]
          have c3 := c2.o h7 m7 (to_ T m + 1)
          have t3 : (zk_si (zk_si (zk_si ν r (25 + m) (nI (pv T m))) r (11 + m) (nI (min (tw T m + 1) 99))) r (18 + m) (nI (to_ T m + 1))).1 r (25 + m) = nI (pv T m) := by rw [zp_sk (by omega), zp_sk (by omega), zp_ss]
          have o3 : (zk_si (zk_si (zk_si ν r (25 + m) (nI (pv T m))) r (11 + m) (nI (min (tw T m + 1) 99))) r (18 + m) (nI (to_ T m + 1))).1 r (18 + m) = nI (to_ T m + 1) := zp_ss
          have g3 : (zk_si (zk_si (zk_si ν r (25 + m) (nI (pv T m))) r (11 + m) (nI (min (tw T m + 1) 99))) r (18 + m) (nI (to_ T m + 1))).1 r 2 = nI (2 ^ tn T - 1 - gz T m) := c3.2.2.1
          have s3 : (zk_si (zk_si (zk_si ν r (25 + m) (nI (pv T m))) r (11 + m) (nI (min (tw T m + 1) 99))) r (18 + m) (nI (to_ T m + 1))).1 6 = ν.1 6 := by simp [zk_si, Ne.symm hr]
          have r3 : zq_Fr r ν (zk_si (zk_si (zk_si ν r (25 + m) (nI (pv T m))) r (11 + m) (nI (min (tw T m + 1) 99))) r (18 + m) (nI (to_ T m + 1))) := (zq_Fr.si.tr zq_Fr.si).tr zq_Fr.si
          generalize (zk_si (zk_si (zk_si ν r (25 + m) (nI (pv T m))) r (11 + m) (nI (min (tw T m + 1) 99))) r (18 + m) (nI (to_ T m + 1))) = ν3 at c3 t3 o3 g3 s3 r3 ⊢
          rw [t3, o3, g3, zp_ins_e _ (zq_cmp_lt h7) m m7, zq_ins (tn T) (by omega) (gz T m) hgz m hin]
          have c4 := c3.g (zp_clr (gz T m) m)
          have t4 : (zk_si ν3 r 2 (nI (2 ^ tn T - 1 - zp_clr (gz T m) m))).1 r (25 + m) = nI (pv T m) := by rw [zp_sk (by omega)]; exact t3
          have o4 : (zk_si ν3 r 2 (nI (2 ^ tn T - 1 - zp_clr (gz T m) m))).1 r (18 + m) = nI (to_ T m + 1) := by rw [zp_sk (by omega)]; exact o3
          have s4 : (zk_si ν3 r 2 (nI (2 ^ tn T - 1 - zp_clr (gz T m) m))).1 6 = ν.1 6 := by rw [← s3]; simp [zk_si, Ne.symm hr]
          have r4 : zq_Fr r ν (zk_si ν3 r 2 (nI (2 ^ tn T - 1 - zp_clr (gz T m) m))) := r3.tr zq_Fr.si
          have c4 : RT (zk_si ν3 r 2 (nI (2 ^ tn T - 1 - zp_clr (gz T m) m))) r 0 (Tg (Tol (Twd (Ttm (ps T m) m (pv T m)) m (min (tw T m + 1) 99)) m (to_ T m + 1)) (zp_clr (gz T m) m)) := c4
          generalize zk_si ν3 r 2 (nI (2 ^ tn T - 1 - zp_clr (gz T m) m)) = ν4 at c4 t4 o4 s4 r4 ⊢
          rw [t4]
          have leaf : zout T m → ∀ b9 x9 : Int32, b9 = nI (min (pv T m) 19) → x9 = nI (min (to_ T m + 1) 99) → ∃ ν', f_X5_passOn_L62 N f 0 r (nI (m + 1)) (zk_si (zk_si ν4 r (25 + m) b9) r (18 + m) x9) = some ν' ∧ RT ν' r 0 (pass T) ∧ zq_Fr r ν ν' := by
            intro hz b9 x9 e9 f9
            subst e9
            subst f9
            have c5 := (c4.t h7 m7 (min (pv T m) 19)).o h7 m7 (min (to_ T m + 1) 99)
            exact fin _ (c5.eq (ps_yes2 hb hin hz)) (by rw [← s4]; simp [zk_si, Ne.symm hr]) (r4.tr (zq_Fr.si.tr zq_Fr.si))
          have body : zout T m → ∃ ν', (if nI (pv T m) ≤ 19 then (if (zk_si ν4 r (25 + m) (nI (pv T m))).1 r (18 + m) ≤ 99 then f_X5_passOn_L62 N f 0 r (nI (m + 1)) (zk_si (zk_si ν4 r (25 + m) (nI (pv T m))) r (18 + m) ((zk_si ν4 r (25 + m) (nI (pv T m))).1 r (18 + m))) else f_X5_passOn_L62 N f 0 r (nI (m + 1)) (zk_si (zk_si ν4 r (25 + m) (nI (pv T m))) r (18 + m) 99)) else (if (zk_si ν4 r (25 + m) 19).1 r (18 + m) ≤ 99 then f_X5_passOn_L62 N f 0 r (nI (m + 1)) (zk_si (zk_si ν4 r (25 + m) 19) r (18 + m) ((zk_si ν4 r (25 + m) 19).1 r (18 + m))) else f_X5_passOn_L62 N f 0 r (nI (m + 1)) (zk_si (zk_si ν4 r (25 + m) 19) r (18 + m) 99))) = some ν' ∧ RT ν' r 0 (pass T) ∧ zq_Fr r ν ν' := by
            intro hz
            rw [zp_sk (by omega), zp_sk (by omega), o4, show (19 : Int32) = nI 19 from rfl, show (99 : Int32) = nI 99 from rfl]
            by_cases q1 : pv T m ≤ 19
            · rw [if_pos (nI_le q1 (by omega))]
              by_cases q2 : to_ T m + 1 ≤ 99
              · rw [if_pos (nI_le q2 (by omega))]
                exact leaf hz _ _ (by rw [Nat.min_eq_left q1]) (by rw [Nat.min_eq_left q2])
              · rw [if_neg (nI_ge (by omega) (by omega))]
                exact leaf hz _ _ (by rw [Nat.min_eq_left q1]) (by rw [Nat.min_eq_right (by omega)])
            · rw [if_neg (nI_ge (by omega) (by omega))]
              by_cases q2 : to_ T m + 1 ≤ 99
              · rw [if_pos (nI_le q2 (by omega))]
                exact leaf hz _ _ (by rw [Nat.min_eq_right (by omega)]) (by rw [Nat.min_eq_left q2])
              · rw [if_neg (nI_ge (by omega) (by omega))]
                exact leaf hz _ _ (by rw [Nat.min_eq_right (by omega)]) (by rw [Nat.min_eq_right (by omega)])
          by_cases q1 : 19 < pv T m
          · rw [if_pos (show (19 : Int32) < nI (pv T m) from nI_lt (a := 19) q1 (by omega))]
            exact body (Or.inl q1)
          · rw [if_neg (show ¬ (19 : Int32) < nI (pv T m) from nI_nlt (a := 19) (by omega) (by omega))]
            by_cases q2 : to_ T m + 1 ≤ 99
            · rw [if_pos (show nI (to_ T m + 1) ≤ (99 : Int32) from nI_le (b := 99) q2 (by omega))]
              exact fin _ (c3.eq (ps_yes3 hb hin (by omega))) s3 r3
            · rw [if_neg (show ¬ nI (to_ T m + 1) ≤ (99 : Int32) from nI_ge (a := 99) (by omega) (by omega))]
              exact body (Or.inr (by omega))
        · rw [if_neg (show ¬ (99 : Int32) ≤ nI (tw T m) from nI_ge (b := 99) (by omega) (by omega)), show nI (tw T m) + 1 = nI (min (tw T m + 1) 99) by rw [Nat.min_eq_left (by omega), nI_1]]
          have c2 := c1.w h7 m7 (min (tw T m + 1) 99)
          have o1 : (zk_si (zk_si ν r (25 + m) (nI (pv T m))) r (11 + m) (nI (min (tw T m + 1) 99))).1 r (18 + m) = nI (to_ T m) := by rw [zp_sk (by omega), zp_sk (by omega)]; exact a3
          rw [o1, nI_1]
          have c3 := c2.o h7 m7 (to_ T m + 1)
          have t3 : (zk_si (zk_si (zk_si ν r (25 + m) (nI (pv T m))) r (11 + m) (nI (min (tw T m + 1) 99))) r (18 + m) (nI (to_ T m + 1))).1 r (25 + m) = nI (pv T m) := by rw [zp_sk (by omega), zp_sk (by omega), zp_ss]
          have o3 : (zk_si (zk_si (zk_si ν r (25 + m) (nI (pv T m))) r (11 + m) (nI (min (tw T m + 1) 99))) r (18 + m) (nI (to_ T m + 1))).1 r (18 + m) = nI (to_ T m + 1) := zp_ss
          have g3 : (zk_si (zk_si (zk_si ν r (25 + m) (nI (pv T m))) r (11 + m) (nI (min (tw T m + 1) 99))) r (18 + m) (nI (to_ T m + 1))).1 r 2 = nI (2 ^ tn T - 1 - gz T m) := c3.2.2.1
          have s3 : (zk_si (zk_si (zk_si ν r (25 + m) (nI (pv T m))) r (11 + m) (nI (min (tw T m + 1) 99))) r (18 + m) (nI (to_ T m + 1))).1 6 = ν.1 6 := by simp [zk_si, Ne.symm hr]
          have r3 : zq_Fr r ν (zk_si (zk_si (zk_si ν r (25 + m) (nI (pv T m))) r (11 + m) (nI (min (tw T m + 1) 99))) r (18 + m) (nI (to_ T m + 1))) := (zq_Fr.si.tr zq_Fr.si).tr zq_Fr.si
          generalize (zk_si (zk_si (zk_si ν r (25 + m) (nI (pv T m))) r (11 + m) (nI (min (tw T m + 1) 99))) r (18 + m) (nI (to_ T m + 1))) = ν3 at c3 t3 o3 g3 s3 r3 ⊢
          rw [t3, o3, g3, zp_ins_e _ (zq_cmp_lt h7) m m7, zq_ins (tn T) (by omega) (gz T m) hgz m hin]
          have c4 := c3.g (zp_clr (gz T m) m)
          have t4 : (zk_si ν3 r 2 (nI (2 ^ tn T - 1 - zp_clr (gz T m) m))).1 r (25 + m) = nI (pv T m) := by rw [zp_sk (by omega)]; exact t3
          have o4 : (zk_si ν3 r 2 (nI (2 ^ tn T - 1 - zp_clr (gz T m) m))).1 r (18 + m) = nI (to_ T m + 1) := by rw [zp_sk (by omega)]; exact o3
          have s4 : (zk_si ν3 r 2 (nI (2 ^ tn T - 1 - zp_clr (gz T m) m))).1 6 = ν.1 6 := by rw [← s3]; simp [zk_si, Ne.symm hr]
          have r4 : zq_Fr r ν (zk_si ν3 r 2 (nI (2 ^ tn T - 1 - zp_clr (gz T m) m))) := r3.tr zq_Fr.si
          have c4 : RT (zk_si ν3 r 2 (nI (2 ^ tn T - 1 - zp_clr (gz T m) m))) r 0 (Tg (Tol (Twd (Ttm (ps T m) m (pv T m)) m (min (tw T m + 1) 99)) m (to_ T m + 1)) (zp_clr (gz T m) m)) := c4
          generalize zk_si ν3 r 2 (nI (2 ^ tn T - 1 - zp_clr (gz T m) m)) = ν4 at c4 t4 o4 s4 r4 ⊢
          rw [t4]
          have leaf : zout T m → ∀ b9 x9 : Int32, b9 = nI (min (pv T m) 19) → x9 = nI (min (to_ T m + 1) 99) → ∃ ν', f_X5_passOn_L62 N f 0 r (nI (m + 1)) (zk_si (zk_si ν4 r (25 + m) b9) r (18 + m) x9) = some ν' ∧ RT ν' r 0 (pass T) ∧ zq_Fr r ν ν' := by
            intro hz b9 x9 e9 f9
            subst e9
            subst f9
            have c5 := (c4.t h7 m7 (min (pv T m) 19)).o h7 m7 (min (to_ T m + 1) 99)
            exact fin _ (c5.eq (ps_yes2 hb hin hz)) (by rw [← s4]; simp [zk_si, Ne.symm hr]) (r4.tr (zq_Fr.si.tr zq_Fr.si))
          have body : zout T m → ∃ ν', (if nI (pv T m) ≤ 19 then (if (zk_si ν4 r (25 + m) (nI (pv T m))).1 r (18 + m) ≤ 99 then f_X5_passOn_L62 N f 0 r (nI (m + 1)) (zk_si (zk_si ν4 r (25 + m) (nI (pv T m))) r (18 + m) ((zk_si ν4 r (25 + m) (nI (pv T m))).1 r (18 + m))) else f_X5_passOn_L62 N f 0 r (nI (m + 1)) (zk_si (zk_si ν4 r (25 + m) (nI (pv T m))) r (18 + m) 99)) else (if (zk_si ν4 r (25 + m) 19).1 r (18 + m) ≤ 99 then f_X5_passOn_L62 N f 0 r (nI (m + 1)) (zk_si (zk_si ν4 r (25 + m) 19) r (18 + m) ((zk_si ν4 r (25 + m) 19).1 r (18 + m))) else f_X5_passOn_L62 N f 0 r (nI (m + 1)) (zk_si (zk_si ν4 r (25 + m) 19) r (18 + m) 99))) = some ν' ∧ RT ν' r 0 (pass T) ∧ zq_Fr r ν ν' := by
            intro hz
            rw [zp_sk (by omega), zp_sk (by omega), o4, show (19 : Int32) = nI 19 from rfl, show (99 : Int32) = nI 99 from rfl]
            by_cases q1 : pv T m ≤ 19
            · rw [if_pos (nI_le q1 (by omega))]
              by_cases q2 : to_ T m + 1 ≤ 99
              · rw [if_pos (nI_le q2 (by omega))]
                exact leaf hz _ _ (by rw [Nat.min_eq_left q1]) (by rw [Nat.min_eq_left q2])
              · rw [if_neg (nI_ge (by omega) (by omega))]
                exact leaf hz _ _ (by rw [Nat.min_eq_left q1]) (by rw [Nat.min_eq_right (by omega)])
            · rw [if_neg (nI_ge (by omega) (by omega))]
              by_cases q2 : to_ T m + 1 ≤ 99
              · rw [if_pos (nI_le q2 (by omega))]
                exact leaf hz _ _ (by rw [Nat.min_eq_right (by omega)]) (by rw [Nat.min_eq_left q2])
              · rw [if_neg (nI_ge (by omega) (by omega))]
                exact leaf hz _ _ (by rw [Nat.min_eq_right (by omega)]) (by rw [Nat.min_eq_right (by omega)])
          by_cases q1 : 19 < pv T m
          · rw [if_pos (show (19 : Int32) < nI (pv T m) from nI_lt (a := 19) q1 (by omega))]
            exact body (Or.inl q1)
          · rw [if_neg (show ¬ (19 : Int32) < nI (pv T m) from nI_nlt (a := 19) (by omega) (by omega))]
            by_cases q2 : to_ T m + 1 ≤ 99
            · rw [if_pos (show nI (to_ T m + 1) ≤ (99 : Int32) from nI_le (b := 99) q2 (by omega))]
              exact fin _ (c3.eq (ps_yes3 hb hin (by omega))) s3 r3
            · rw [if_neg (show ¬ nI (to_ T m + 1) ≤ (99 : Int32) from nI_ge (a := 99) (by omega) (by omega))]
              exact body (Or.inr (by omega))
      · rw [if_neg hb, if_pos (show ¬ (1 : Int32) = 0 by decide)]
        exact zq_year_L hr hT hy f (m + 1) ν (by omega) (by omega) (h.eq (ps_no (by simpa using hb))) h6
    · have : m = tn T := by omega
      subst this
      rw [if_pos (nI_le (Nat.le_refl _) (by omega))]
      have h3 : ν.1 r 1 = nI (ty T) := h.2.1
      rw [h3, nI_1]
      exact ⟨_, rfl, h.y (ty T + 1), zq_Fr.si⟩
