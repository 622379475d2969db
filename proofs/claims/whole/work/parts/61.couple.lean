-- one more couple
def zjn (T : Tw) (k w o t : Nat) (b : Bool) : Tw := (tn T + 1, if b then tg T + 2 ^ tn T else tg T, ty T, td T, upN (tk T) (tn T) k, upN (tw T) (tn T) w, upN (to_ T) (tn T) o, upN (tt T) (tn T) t)
theorem tok_jn {T : Tw} (hT : tok T) (hn : tn T < 7) {k w o t : Nat} {b : Bool} (hk : k ≤ 4) (hw : w ≤ 99) (ho : o ≤ 99) (ht : t ≤ 19) : tok (zjn T k w o t b) := by
  obtain ⟨h1, h2, h3, h4⟩ := hT
  refine ⟨show tn T + 1 ≤ 7 by omega, ?_, h3, fun i (hi : i < tn T + 1) => ?_⟩
  · show (if b = true then tg T + 2 ^ tn T else tg T) < 2 ^ (tn T + 1)
    rw [Nat.pow_succ]
    split <;> omega
  · show upN (tk T) (tn T) k i ≤ 4 ∧ upN (tw T) (tn T) w i ≤ 99 ∧ upN (to_ T) (tn T) o i ≤ 99 ∧ upN (tt T) (tn T) t i ≤ 19
    by_cases e : i = tn T
    · subst e
      rw [upN_s, upN_s, upN_s, upN_s]
      exact ⟨hk, hw, ho, ht⟩
    · rw [upN_n e, upN_n e, upN_n e, upN_n e]
      exact h4 i (by omega)
theorem zjn_bit {T : Tw} (hT : tg T < 2 ^ tn T) : (tg T).testBit (tn T) = false := Nat.testBit_lt_two_pow hT
theorem zjn_128 {T : Tw} (hT : tg T < 2 ^ tn T) (hn : tn T < 7) : tg T < 128 := Nat.lt_of_lt_of_le hT (Nat.pow_le_pow_right (by omega) (show tn T ≤ 7 by omega))
theorem zp_settle {N a k w o t : Nat} {b : Bool} {μ : ZM} {T : Tw} (h : CT μ a T) (hT : tg T < 2 ^ tn T) (hn : tn T < 7) : ∃ μ', f_X3_settle N a (nI k) (nI w) (nI o) (nI t) (if b = true then 1 else 0) μ = some (nI (tn T), μ') ∧ CT μ' a (zjn T k w o t b) ∧ zp_Fr a μ μ' := by
  obtain ⟨h1, h2, h3, h4, h5⟩ := h
  have hg : zp_ins (tg T) (tn T) = tg T + 2 ^ tn T := by unfold zp_ins; rw [zjn_bit hT]; rfl
  have l7 : (nI (tn T) < 7) = True := eq_true (nI_lt (b := 7) hn (by omega))
  have key : ∀ G : Nat, ∀ μ5 : ZM, μ5.1 a 5 = nI G → (∀ q j, ¬ (q = a ∧ j = 5) → μ5.1 q j = (zk_si (zk_si (zk_si (zk_si μ (a + 1) (tn T) (nI k)) (a + 2) (tn T) (nI w)) (a + 3) (tn T) (nI o)) (a + 4) (tn T) (nI t)).1 q j) → μ5.2 = μ.2 → CT (zk_si μ5 a 4 (nI (tn T + 1))) a (tn T + 1, G, ty T, td T, upN (tk T) (tn T) k, upN (tw T) (tn T) w, upN (to_ T) (tn T) o, upN (tt T) (tn T) t) ∧ zp_Fr a μ (zk_si μ5 a 4 (nI (tn T + 1))) := by
    intro G μ5 e5 eo e2
    refine ⟨⟨zp_ss, ?_, ?_, ?_, fun i (hi : i < tn T + 1) => ?_⟩, fun q hq => ?_, e2⟩
    · rw [zp_sk (by omega)]; exact e5
    · rw [zp_sk (by omega), eo _ _ (by omega), zp_sk (by omega), zp_sk (by omega), zp_sk (by omega), zp_sk (by omega)]; exact h3
    · rw [zp_sk (by omega), eo _ _ (by omega), zp_sk (by omega), zp_sk (by omega), zp_sk (by omega), zp_sk (by omega)]; exact h4
    · rw [zp_sk (by omega), zp_sk (by omega), zp_sk (by omega), zp_sk (by omega), eo _ _ (by omega), eo _ _ (by omega), eo _ _ (by omega), eo _ _ (by omega)]
      show _ = nI (upN (tk T) (tn T) k i) ∧ _ = nI (upN (tw T) (tn T) w i) ∧ _ = nI (upN (to_ T) (tn T) o i) ∧ _ = nI (upN (tt T) (tn T) t i)
      by_cases e : i = tn T
      · subst e
        rw [upN_s, upN_s, upN_s, upN_s]
        refine ⟨?_, ?_, ?_, zp_ss⟩
        · rw [zp_sk (by omega), zp_sk (by omega), zp_sk (by omega), zp_ss]
        · rw [zp_sk (by omega), zp_sk (by omega), zp_ss]
        · rw [zp_sk (by omega), zp_ss]
      · rw [upN_n e, upN_n e, upN_n e, upN_n e]
        have q := h5 i (by omega)
        refine ⟨?_, ?_, ?_, ?_⟩
        · rw [zp_sk (by omega), zp_sk (by omega), zp_sk (by omega), zp_sk (by omega)]; exact q.1
        · rw [zp_sk (by omega), zp_sk (by omega), zp_sk (by omega), zp_sk (by omega)]; exact q.2.1
        · rw [zp_sk (by omega), zp_sk (by omega), zp_sk (by omega), zp_sk (by omega)]; exact q.2.2.1
        · rw [zp_sk (by omega), zp_sk (by omega), zp_sk (by omega), zp_sk (by omega)]; exact q.2.2.2
    · funext j
      rw [zp_sk (by omega), eo _ _ (by omega), zp_sk (by omega), zp_sk (by omega), zp_sk (by omega), zp_sk (by omega)]
  unfold f_X3_settle
  have r5 : (zk_si (zk_si (zk_si (zk_si μ (a + 1) (tn T) (nI k)) (a + 2) (tn T) (nI w)) (a + 3) (tn T) (nI o)) (a + 4) (tn T) (nI t)).1 a 5 = nI (tg T) := by
    rw [zp_sk (by omega), zp_sk (by omega), zp_sk (by omega), zp_sk (by omega)]; exact h2
  simp only [h1, l7, if_true, zp_o hn (show 7 < 2 ^ 31 by omega), nI_clamp (show tn T < 2 ^ 31 by omega), Bool.false_eq_true, if_false, nI_1]
  cases b with
  | false =>
    simp only [Bool.false_eq_true, if_false, if_true]
    obtain ⟨k1, k2⟩ := key (tg T) _ r5 (fun _ _ _ => rfl) rfl
    exact ⟨_, rfl, k1, k2⟩
  | true =>
    simp only [if_true, zt10, if_false, r5, zp_ins_e (tg T) (zjn_128 hT hn) (tn T) hn, hg]
    obtain ⟨k1, k2⟩ := key (tg T + 2 ^ tn T) (zk_si (zk_si (zk_si (zk_si (zk_si μ (a + 1) (tn T) (nI k)) (a + 2) (tn T) (nI w)) (a + 3) (tn T) (nI o)) (a + 4) (tn T) (nI t)) a 5 (nI (tg T + 2 ^ tn T))) zp_ss (fun q j hq => zp_sk (by omega)) rfl
    exact ⟨_, rfl, k1, k2⟩
theorem zq_join {N r k w o t : Nat} {b : Bool} {ν : ZM} {T : Tw} (h : RT ν r 0 T) (hT : tok T) (hn : tn T < 7) : ∃ ν', f_X5_join N r (nI k) (nI w) (nI o) (nI t) (if b = true then 0 else 1) ν = some ν' ∧ RT ν' r 0 (zjn T k w o t b) ∧ zq_Fr r ν ν' := by
  obtain ⟨h1, h2, h3, h4, h5⟩ := h
  have hg := hT.2.1
  have hc : 2 ^ tn T - 1 - tg T < 2 ^ tn T := by omega
  have hb : (2 ^ tn T - 1 - tg T).testBit (tn T) = false := Nat.testBit_lt_two_pow hc
  have h128 : 2 ^ tn T - 1 - tg T < 128 := zq_cmp_lt hT.1
  have hi : zp_ins (2 ^ tn T - 1 - tg T) (tn T) = 2 ^ tn T - 1 - tg T + 2 ^ tn T := by unfold zp_ins; rw [hb]; rfl
  have hr : zp_clr (2 ^ tn T - 1 - tg T) (tn T) = 2 ^ tn T - 1 - tg T := by unfold zp_clr; rw [hb]; rfl
  have key : ∀ p : Int32, p = nI (2 ^ (tn T + 1) - 1 - tg (zjn T k w o t b)) → RT (zk_si (zk_si (zk_si (zk_si (zk_si (zk_si ν r (4 + tn T) (nI k)) r (11 + tn T) (nI w)) r (18 + tn T) (nI o)) r (25 + tn T) (nI t)) r 2 p) r 0 (nI (tn T + 1))) r 0 (zjn T k w o t b) ∧ zq_Fr r ν (zk_si (zk_si (zk_si (zk_si (zk_si (zk_si ν r (4 + tn T) (nI k)) r (11 + tn T) (nI w)) r (18 + tn T) (nI o)) r (25 + tn T) (nI t)) r 2 p) r 0 (nI (tn T + 1))) := by
    intro p hp
    refine ⟨⟨zp_ss, ?_, ?_, ?_, fun i (hi : i < tn T + 1) => ?_⟩, (((((zq_Fr.si.tr zq_Fr.si).tr zq_Fr.si).tr zq_Fr.si).tr zq_Fr.si).tr zq_Fr.si)⟩
    · rw [zp_sk (by omega), zp_sk (by omega), zp_sk (by omega), zp_sk (by omega), zp_sk (by omega), zp_sk (by omega)]; exact h2
    · rw [zp_sk (by omega), zp_ss]; exact hp
    · rw [zp_sk (by omega), zp_sk (by omega), zp_sk (by omega), zp_sk (by omega), zp_sk (by omega), zp_sk (by omega)]; exact h4
    · rw [Nat.zero_add, Nat.zero_add, Nat.zero_add, Nat.zero_add]
      show _ = nI (upN (tk T) (tn T) k i) ∧ _ = nI (upN (tw T) (tn T) w i) ∧ _ = nI (upN (to_ T) (tn T) o i) ∧ _ = nI (upN (tt T) (tn T) t i)
      by_cases e : i = tn T
      · subst e
        rw [upN_s, upN_s, upN_s, upN_s]
        refine ⟨?_, ?_, ?_, ?_⟩
        · rw [zp_sk (by omega), zp_sk (by omega), zp_sk (by omega), zp_sk (by omega), zp_sk (by omega), zp_ss]
        · rw [zp_sk (by omega), zp_sk (by omega), zp_sk (by omega), zp_sk (by omega), zp_ss]
        · rw [zp_sk (by omega), zp_sk (by omega), zp_sk (by omega), zp_ss]
        · rw [zp_sk (by omega), zp_sk (by omega), zp_ss]
      · rw [upN_n e, upN_n e, upN_n e, upN_n e]
        have q := h5 i (by omega)
        rw [Nat.zero_add, Nat.zero_add, Nat.zero_add, Nat.zero_add] at q
        refine ⟨?_, ?_, ?_, ?_⟩
        · rw [zp_sk (by omega), zp_sk (by omega), zp_sk (by omega), zp_sk (by omega), zp_sk (by omega), zp_sk (by omega)]; exact q.1
        · rw [zp_sk (by omega), zp_sk (by omega), zp_sk (by omega), zp_sk (by omega), zp_sk (by omega), zp_sk (by omega)]; exact q.2.1
        · rw [zp_sk (by omega), zp_sk (by omega), zp_sk (by omega), zp_sk (by omega), zp_sk (by omega), zp_sk (by omega)]; exact q.2.2.1
        · rw [zp_sk (by omega), zp_sk (by omega), zp_sk (by omega), zp_sk (by omega), zp_sk (by omega), zp_sk (by omega)]; exact q.2.2.2
  have r2 : (zk_si (zk_si (zk_si (zk_si ν r (4 + tn T) (nI k)) r (11 + tn T) (nI w)) r (18 + tn T) (nI o)) r (25 + tn T) (nI t)).1 r 2 = nI (2 ^ tn T - 1 - tg T) := by
    rw [zp_sk (by omega), zp_sk (by omega), zp_sk (by omega), zp_sk (by omega)]; exact h3
  have r0 : ∀ p, (zk_si (zk_si (zk_si (zk_si (zk_si ν r (4 + tn T) (nI k)) r (11 + tn T) (nI w)) r (18 + tn T) (nI o)) r (25 + tn T) (nI t)) r 2 p).1 r 0 = nI (tn T) := by
    intro p
    rw [zp_sk (by omega), zp_sk (by omega), zp_sk (by omega), zp_sk (by omega), zp_sk (by omega)]; exact h1
  unfold f_X5_join
  rw [show (4 : Int32) = nI 4 from rfl, show (11 : Int32) = nI 11 from rfl, show (18 : Int32) = nI 18 from rfl, show (25 : Int32) = nI 25 from rfl]
  simp only [h1, nI_add, zp_o (show 4 + tn T < 32 by omega) (show 32 < 2 ^ 31 by omega), zp_o (show 11 + tn T < 32 by omega) (show 32 < 2 ^ 31 by omega), zp_o (show 18 + tn T < 32 by omega) (show 32 < 2 ^ 31 by omega), zp_o (show 25 + tn T < 32 by omega) (show 32 < 2 ^ 31 by omega), nI_clamp (show 4 + tn T < 2 ^ 31 by omega), nI_clamp (show 11 + tn T < 2 ^ 31 by omega), nI_clamp (show 18 + tn T < 2 ^ 31 by omega), nI_clamp (show 25 + tn T < 2 ^ 31 by omega), Bool.false_eq_true, if_false, r2, r0, nI_1, zp_ins_e _ h128 _ hn, zp_clr_e _ h128 _ hn, hi, hr]
  have p2 : 2 ^ (tn T + 1) = 2 ^ tn T * 2 := Nat.pow_succ _ _
  cases b with
  | false =>
    simp only [Bool.false_eq_true, if_false, zt10]
    obtain ⟨k1, k2⟩ := key (nI (2 ^ tn T - 1 - tg T + 2 ^ tn T)) (congrArg nI (show _ = 2 ^ (tn T + 1) - 1 - tg T by omega))
    exact ⟨_, rfl, k1, k2⟩
  | true =>
    simp only [if_true]
    obtain ⟨k1, k2⟩ := key (nI (2 ^ tn T - 1 - tg T)) (congrArg nI (show _ = 2 ^ (tn T + 1) - 1 - (tg T + 2 ^ tn T) by omega))
    exact ⟨_, rfl, k1, k2⟩
theorem zl_couple {N : Nat} (c a : Int32) : zl_ok zr_rel (f_X4_couple N 0 c a) (f_X5_couple N 0 c a) := by
  intro μ ν hR
  obtain ⟨⟨T, hn⟩, hp, _⟩ := id hR
  obtain ⟨hc, hr, hT, hy⟩ := id hn
  have n1 : μ.1 1 4 = nI (tn T) := hc.1
  have n2 : ν.1 1 0 = nI (tn T) := hr.1
  have h7 := hT.1
  unfold f_X4_couple f_X5_couple
  rcases zp_in (N := N) (a := 0) (b := 4) (x := c) (by omega) (by omega) with ⟨k, k1, k2, rfl, e1, e2⟩ | ⟨e1, e2⟩
  · have e1 : ∀ μ, f_X4_within N (nI k) 0 4 μ = some (1, μ) := e1
    have e2 : ∀ μ, f_X5_in N (nI k) 0 4 μ = some (1, μ) := e2
    rcases zp_in (N := N) (a := 0) (b := 80) (x := a) (by omega) (by omega) with ⟨w, w1, w2, rfl, e3, e4⟩ | ⟨e3, e4⟩
    · have e3 : ∀ μ, f_X4_within N (nI w) 0 80 μ = some (1, μ) := e3
      have e4 : ∀ μ, f_X5_in N (nI w) 0 80 μ = some (1, μ) := e4
      simp only [e1, e2, e3, e4, Option.bind_some, zt10, not_false_eq_true, if_true, if_false, Nat.zero_add, n1, n2]
      by_cases h : tn T < 7
      · have l1 : (nI (tn T) < 7) = True := eq_true (nI_lt (b := 7) h (by omega))
        have l2 : (nI (tn T) = 7) = False := eq_false (fun q => by
          have := (nI_eq (b := 7) (show tn T < 2 ^ 31 by omega) (by omega)).mp q
          omega)
        have f0 : f_X0_forget N 6 μ = some (zk_si μ 6 2 0) := rfl
        have hc1 : CT (zk_si μ 6 2 0) 1 T := hc.fr' (fun q q1 q2 => by simp [zk_si, show q ≠ 6 by omega])
        obtain ⟨μ2, f2, c2, r2⟩ := zp_settle (N := N) (k := k) (w := w) (o := 40) (t := 0) (b := true) hc1 hT.2.1 h
        obtain ⟨ν2, g2, d2, s2⟩ := zq_join (N := N) (k := k) (w := w) (o := 40) (t := 0) (b := true) hr hT h
        have f2 : f_X3_settle N 1 (nI k) (nI w) 40 0 1 (zk_si μ 6 2 0) = some (nI (tn T), μ2) := f2
        have g2 : f_X5_join N 1 (nI k) (nI w) 40 0 0 ν = some ν2 := g2
        have z0 : (zk_si ν2 0 3 0).1 1 0 = nI (tn T + 1) := by rw [zp_sk (by omega)]; exact d2.1
        simp only [l1, l2, if_true, not_false_eq_true, f0, Option.bind_some, f2, g2, z0, zp_usz (tn T) (by omega)]
        refine ⟨_, μ2, zk_si ν2 0 3 0, rfl, rfl, zr_do hR ⟨zjn T k w 40 0 true, c2, d2.fr (by simp [zk_si]), tok_jn hT h (by omega) (by omega) (by omega) (by omega), hy⟩ ?_ (fun q q1 q2 => ?_) r2.2 (fun q q0 q1 q2 q3 q6 => ?_) (fun j hj => ?_) s2.2⟩
        · obtain ⟨nx, sz, P, p1, p2, p3, p4, p5, p6⟩ := hp
          refine ⟨nx, 0, P, p1, by omega, ?_, ?_, zp_ss, fun i hi => absurd hi (by omega)⟩
          · rw [r2.1 6 (by omega), zp_sk (by omega)]; exact p3
          · rw [r2.1 6 (by omega), zp_ss]; rfl
        · rw [r2.1 q (by omega)]
          simp [zk_si, show q ≠ 6 by omega]
        · rw [← s2.1 q q1 q6]
          simp [zk_si, q0]
        · rw [zp_sk (by omega), s2.1 0 (by decide) (by decide)]
      · have e7 : tn T = 7 := by omega
        have l1 : (nI (tn T) < 7) = False := eq_false (by rw [e7]; decide)
        have l2 : (nI (tn T) = 7) = True := eq_true (by rw [e7]; rfl)
        simp only [l1, l2, if_false, not_true_eq_false]
        exact ⟨-3, μ, ν, rfl, rfl, hR⟩
    · have e3 : ∀ μ, f_X4_within N a 0 80 μ = some (0, μ) := e3
      have e4 : ∀ μ, f_X5_in N a 0 80 μ = some (0, μ) := e4
      simp only [e1, e2, e3, e4, Option.bind_some, zt10, if_false, not_true_eq_false]
      exact ⟨-1, μ, ν, rfl, rfl, hR⟩
  · have e1 : ∀ μ, f_X4_within N c 0 4 μ = some (0, μ) := e1
    have e2 : ∀ μ, f_X5_in N c 0 4 μ = some (0, μ) := e2
    simp only [e1, e2, Option.bind_some, if_true]
    exact ⟨-1, μ, ν, rfl, rfl, hR⟩
