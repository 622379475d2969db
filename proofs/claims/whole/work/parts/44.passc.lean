-- passYear of the class
theorem ps_at {T : Tw} {m : Nat} : tk (ps T m) m = tk T m ∧ tw (ps T m) m = tw T m ∧ to_ (ps T m) m = to_ T m ∧ tt (ps T m) m = tt T m := by
  refine ⟨rfl, ?_, ?_, ?_⟩
  all_goals exact if_neg (fun q => absurd q.1 (Nat.lt_irrefl m))
theorem zp_dc {T : Tw} {m : Nat} {o : Option Nat} (hm : m < 7) (ho : ∀ k, o = some k → k < 7) : decide (nI m = zp_cd o) = decide (o = some m) := decide_eq_decide.mpr (zp_cd_eq hm ho)
theorem zp_year_L {N a : Nat} {T : Tw} (hT : tok T) (hy : ty T < 2 ^ 30) : ∀ (f m : Nat) (μ : ZM), tn T < m + f → m ≤ tn T → CT μ a (ps T m) → ∃ μ', f_X3_passYear_L13 N f a (zp_cd (kp T)) (zp_cd (sc T)) (nI m) μ = some μ' ∧ CT μ' a (pass T) ∧ zp_Fr a μ μ'
  | 0, m, μ, hf, hm, h => absurd hf (by omega)
  | f + 1, m, μ, hf, hm, h => by
    have h7 := hT.1
    have hg := tok_g hT
    unfold f_X3_passYear_L13
    have h1 : μ.1 a 4 = nI (tn T) := h.1
    rw [h1]
    by_cases hin : m < tn T
    · rw [if_neg (nI_ge hin (by omega))]
      have m7 : m < 7 := by omega
      have hgz : tg (ps T m) < 128 := gz_lt hg m
      rw [zp_isT h hgz m7]
      simp only [Option.bind_some]
      have hbit : (tg (ps T m)).testBit m = (tg T).testBit m := by
        show (gz T m).testBit m = _
        rw [gz_bit hg m (by omega) m m7]
        simp
      rw [hbit, nI_1]
      by_cases hb : (tg T).testBit m = true
      · rw [if_pos hb, if_neg (show ¬ (1 : Int32) = 0 by decide)]
        obtain ⟨b1, b2, b3, b4⟩ := hT.2.2.2 m hin
        obtain ⟨p1, p2, p3, p4⟩ := ps_at (T := T) (m := m)
        rw [zp_worse h h7 hin (by rw [p1]; exact b1) (show ty T < 2 ^ 31 by omega) (by rw [p4]; exact b4)]
        simp only [Option.bind_some, zp_o m7 (show 7 < 2 ^ 31 by omega), nI_clamp (show m < 2 ^ 31 by omega), Bool.false_eq_true, if_false]
        have ew : μ.1 (a + 2) m = nI (tw T m) := by have := (h.2.2.2.2 m hin).2.1; rwa [p2] at this
        have eo : μ.1 (a + 3) m = nI (to_ T m) := by have := (h.2.2.2.2 m hin).2.2.1; rwa [p3] at this
        rw [ew, nI_1, show (99 : Int32) = nI 99 from rfl, zp_min (by omega) (by omega)]
        have c1 := h.w m (min (tw T m + 1) 99)
        have ro : (zk_si μ (a + 2) m (nI (min (tw T m + 1) 99))).1 (a + 3) m = nI (to_ T m) := by rw [zp_sk (by omega)]; exact eo
        rw [ro, nI_1]
        have c2 := c1.o m (to_ T m + 1)
        have e1 : decide (nI m = zp_cd (kp T)) = decide (kp T = some m) := zp_dc (T := T) m7 (fun k hk => by have := (kp_lt hk).1; omega)
        have e2 : decide (nI m = zp_cd (sc T)) = decide (sc T = some m) := zp_dc (T := T) m7 (fun k hk => by have := sc_lt hk; omega)
        have tt5 : tt (Tol (Twd (ps T m) m (min (tw T m + 1) 99)) m (to_ T m + 1)) m = tt T m := p4
        have to5 : to_ (Tol (Twd (ps T m) m (min (tw T m + 1) 99)) m (to_ T m + 1)) m = to_ T m + 1 := upN_s
        have hraw := (zp_raw (tt T m) (by omega) _ (zp_rng (wz_in (decide (kp T = some m)) (decide (sc T = some m)) (tk T m) (ty T) (tt T m)))).1
        obtain ⟨μ6, f6, c6, r6⟩ := zp_worsen (N := N) (i := m) (v := pv T m) (z := Int32.ofInt (wz (decide (nI m = zp_cd (kp T))) (decide (nI m = zp_cd (sc T))) (tk (ps T m) m) (ty (ps T m)) (tt (ps T m) m))) c2 h7 hgz hin (by rw [to5]; omega) (by have := pv_le (T := T) b4; omega) (by rw [tt5, e1, e2, p1]; exact hraw)
        rw [f6]
        simp only [Option.bind_some]
        have c7 := c6.eq (ps_yes hb hin)
        obtain ⟨μ8, f8, c8, r8⟩ := zp_year_L hT hy f (m + 1) μ6 (by omega) (by omega) c7
        exact ⟨μ8, f8, c8, ((zp_Fr.si (by omega) (by omega)).tr (zp_Fr.si (by omega) (by omega))).tr (r6.tr r8)⟩
      · rw [if_neg hb, if_pos rfl]
        exact zp_year_L hT hy f (m + 1) μ (by omega) (by omega) (h.eq (ps_no (by simpa using hb)))
    · have : m = tn T := by omega
      subst this
      rw [if_pos (nI_le (Nat.le_refl _) (by omega))]
      have h3 : μ.1 a 6 = nI (ty T) := h.2.2.1
      rw [h3, nI_1]
      exact ⟨_, rfl, h.y (ty T + 1), zp_Fr.si (by omega) (by omega)⟩
theorem zp_pass {N a : Nat} {μ : ZM} {T : Tw} (hN : 8 ≤ N) (h : CT μ a T) (hT : tok T) (hy : ty T < 2 ^ 30) : ∃ μ', f_X3_passYear N a μ = some μ' ∧ CT μ' a (pass T) ∧ zp_Fr a μ μ' := by
  have h7 := hT.1
  unfold f_X3_passYear
  rw [zp_keeper hN h hT]
  simp only [Option.bind_some]
  rw [zp_second hN h hT]
  simp only [Option.bind_some]
  exact zp_year_L hT hy N 0 μ (by omega) (by omega) (h.eq (ps_0 T))
theorem tok_pass {T : Tw} (hT : tok T) : tok (pass T) := by
  have h7 := hT.1
  refine ⟨h7, ?_, hT.2.2.1, fun i hi => ?_⟩
  · exact gz_lt hT.2.1 (tn T)
  · obtain ⟨b1, b2, b3, b4⟩ := hT.2.2.2 i hi
    refine ⟨b1, ?_, ?_, ?_⟩
    · show (if i < tn T ∧ (tg T).testBit i = true then min (tw T i + 1) 99 else tw T i) ≤ 99
      split <;> omega
    · show (if i < tn T ∧ (tg T).testBit i = true then min (to_ T i + 1) 99 else to_ T i) ≤ 99
      split <;> omega
    · show (if i < tn T ∧ (tg T).testBit i = true then min (pv T i) 19 else tt T i) ≤ 19
      split <;> omega
-- many years
def passN (T : Tw) : Nat → Tw
  | 0 => T
  | n + 1 => passN (pass T) n
theorem tok_passN : ∀ (n : Nat) {T : Tw}, tok T → tok (passN T n)
  | 0, _, h => h
  | n + 1, _, h => tok_passN n (tok_pass h)
theorem ty_passN : ∀ (n : Nat) (T : Tw), ty (passN T n) = ty T + n
  | 0, _ => rfl
  | n + 1, T => by
    show ty (passN (pass T) n) = _
    rw [ty_passN n (pass T)]
    show ty T + 1 + n = _
    omega
theorem tn_passN : ∀ (n : Nat) (T : Tw), tn (passN T n) = tn T
  | 0, _ => rfl
  | n + 1, T => tn_passN n (pass T)
theorem passN_succ : ∀ (n : Nat) (T : Tw), passN T (n + 1) = pass (passN T n)
  | 0, _ => rfl
  | n + 1, T => passN_succ n (pass T)
theorem zp_years_L {N a n : Nat} (hN : 8 ≤ N) (hn : n ≤ 1000) : ∀ (f i : Nat) (μ : ZM) (T : Tw), n < i + f → i ≤ n → CT μ a T → tok T → ty T + (n - i) < 2 ^ 30 → ∃ μ', f_X3_passYears_L2 N f a (nI n) (nI i) μ = some μ' ∧ CT μ' a (passN T (n - i)) ∧ zp_Fr a μ μ'
  | 0, i, μ, T, hf, hi, h, hT, hy => absurd hf (by omega)
  | f + 1, i, μ, T, hf, hi, h, hT, hy => by
    unfold f_X3_passYears_L2
    by_cases hin : i < n
    · rw [if_neg (nI_ge hin (by omega))]
      obtain ⟨μ1, f1, c1, r1⟩ := zp_pass hN h hT (by omega)
      rw [f1]
      simp only [Option.bind_some]
      rw [nI_1]
      obtain ⟨μ2, f2, c2, r2⟩ := zp_years_L hN hn f (i + 1) μ1 (pass T) (by omega) (by omega) c1 (tok_pass hT) (by show ty T + 1 + _ < _; omega)
      refine ⟨μ2, f2, ?_, r1.tr r2⟩
      rw [show n - i = (n - (i + 1)) + 1 by omega]
      exact c2
    · have : i = n := by omega
      subst this
      rw [if_pos (nI_le (Nat.le_refl _) (by omega)), Nat.sub_self]
      exact ⟨μ, rfl, h, zp_Fr.rf⟩
theorem zp_years {N a n : Nat} {μ : ZM} {T : Tw} (hN : 300 ≤ N) (hn : n ≤ 200) (h : CT μ a T) (hT : tok T) (hy : ty T < 2 ^ 20) : ∃ μ', f_X3_passYears N a (nI n) μ = some μ' ∧ CT μ' a (passN T n) ∧ zp_Fr a μ μ' := by
  unfold f_X3_passYears
  have := zp_years_L (N := N) (a := a) (n := n) (by omega) (by omega) N 0 μ T (by omega) (by omega) h hT (by omega)
  rwa [Nat.sub_zero] at this
