-- heard
def zhd (V : Nat → Int64) (c : Nat) : Nat → Nat → Tw → Bool
  | 0, _, _ => true
  | r + 1, p, T => decide (lg_cmp (V p) (Int32.toInt64 (nI (tt (pass T) c))) = 0) && zhd V c r (p + 1) (pass T)
theorem zp_tells_L {N s c i n : Nat} {V : Nat → Int64} (hN : 300 ≤ N) (s4 : s < 4) (hin : i + n ≤ 24) : ∀ (f m : Nat) (μ : ZM) (T : Tw), n < m + f → m ≤ n → CT μ 98 T → tok T → c < tn T → ty T + (n - m) < 2 ^ 30 → μ.2 (104 + 2 * s) = V → ∃ μ', f_X4_trialTells_L3 N f 0 (nI c) (103 + 2 * s) (nI i) (nI n) (nI m) μ = some (if zhd V c (n - m) (i + m) T = true then 1 else 0, μ') ∧ zp_Fr 98 μ μ'
  | 0, m, μ, T, hf, hm, hc, hT, hcn, hy, hV => absurd hf (by omega)
  | f + 1, m, μ, T, hf, hm, hc, hT, hcn, hy, hV => by
    unfold f_X4_trialTells_L3
    have h7 := hT.1
    by_cases hl : m < n
    · have l1 : (nI n ≤ nI m) = False := eq_false (nI_ge hl (by omega))
      obtain ⟨μ1, f1, c1, r1⟩ := zp_pass (N := N) (by omega) hc hT (by omega)
      have hP := tok_pass hT
      have hcp : c < tn (pass T) := hcn
      have u4 : μ1.1 102 c = nI (tt (pass T) c) := (c1.2.2.2.2 c hcp).2.2.2
      have hV1 : μ1.2 (103 + 2 * s + 1) = V := by rw [r1.2, show 103 + 2 * s + 1 = 104 + 2 * s by omega]; exact hV
      simp only [l1, if_false, Nat.zero_add, Nat.reduceAdd, f1, Option.bind_some, nI_1, nI_add, zp_o (show i + m < 24 by omega) (show 24 < 2 ^ 31 by omega), nI_clamp (show i + m < 2 ^ 31 by omega), zp_o (show c < 7 by omega) (show 7 < 2 ^ 31 by omega), nI_clamp (show c < 2 ^ 31 by omega), Bool.false_eq_true, u4, hV1]
      rw [show n - m = (n - (m + 1)) + 1 by omega]
      unfold zhd
      by_cases e : lg_cmp (V (i + m)) (Int32.toInt64 (nI (tt (pass T) c))) = 0
      · obtain ⟨μ', a1, a2⟩ := zp_tells_L (V := V) hN s4 hin f (m + 1) μ1 (pass T) (by omega) (by omega) c1 hP hcp (by show ty T + 1 + _ < _; omega) (by rw [r1.2]; exact hV)
        rw [if_pos e, decide_eq_true e, Bool.true_and]
        exact ⟨μ', a1, r1.tr a2⟩
      · rw [if_neg e, decide_eq_false e, Bool.false_and]
        exact ⟨μ1, rfl, r1⟩
    · have l1 : (nI n ≤ nI m) = True := eq_true (nI_le (by omega) (by omega))
      simp only [l1, if_true]
      rw [show n - m = 0 by omega]
      exact ⟨μ, rfl, zp_Fr.rf⟩
theorem zq_tells0 {N f : Nat} {ν : ZM} {x1 x2 x3 x4 x6 : Int32} (hf : 1 ≤ f) : f_X5_isHeard_L6 N f 0 x1 x2 x3 x4 0 x6 ν = some (0, ν) := by
  obtain ⟨M, rfl⟩ : ∃ M, f = M + 1 := ⟨f - 1, by omega⟩
  unfold f_X5_isHeard_L6
  rw [if_pos (show (0 : Int32) = 0 from rfl), ite_self]
  rfl
theorem zq_tells_L {N s c i n : Nat} {V : Nat → Int64} (hN : 300 ≤ N) (s4 : s < 4) (hin : i + n ≤ 24) : ∀ (f m : Nat) (ν : ZM) (T : Tw), n < m + f → m ≤ n → RT ν 2 0 T → tok T → c < tn T → ty T + (n - m) < 2 ^ 30 → (∀ j, j < 24 → ν.2 10 (24 * s + j) = V j) → ∃ ν', f_X5_isHeard_L6 N f 0 (nI c) (nI s) (nI i) (nI n) 1 (nI m) ν = some (if zhd V c (n - m) (i + m) T = true then 1 else 0, ν') ∧ zq_Fr 2 ν ν'
  | 0, m, ν, T, hf, hm, hr, hT, hcn, hy, hV => absurd hf (by omega)
  | f + 1, m, ν, T, hf, hm, hr, hT, hcn, hy, hV => by
    unfold f_X5_isHeard_L6
    have h7 := hT.1
    by_cases hl : m < n
    · have l1 : (nI n ≤ nI m) = False := eq_false (nI_ge hl (by omega))
      obtain ⟨ν1, g1, e1, s1⟩ := zq_pass (N := N) (by omega) (show 2 ≠ 6 by decide) hr hT (by omega)
      have hP := tok_pass hT
      have hcp : c < tn (pass T) := hcn
      have w4 := (zq_at e1 hcp).2.2.2
      have hV1 : ν1.2 10 (24 * s + i + m) = V (i + m) := by rw [s1.2, Nat.add_assoc]; exact hV (i + m) (by omega)
      rw [show (25 : Int32) = nI 25 from rfl]
      simp only [l1, if_false, zt10, Nat.zero_add, g1, Option.bind_some, nI_1, nI_add, zq_24 s s4, zp_o (show 25 + c < 32 by omega) (show 32 < 2 ^ 31 by omega), nI_clamp (show 25 + c < 2 ^ 31 by omega), zp_o (show 24 * s + i + m < 96 by omega) (show 96 < 2 ^ 31 by omega), nI_clamp (show 24 * s + i + m < 2 ^ 31 by omega), Bool.false_eq_true, w4, hV1]
      rw [show n - m = (n - (m + 1)) + 1 by omega]
      unfold zhd
      by_cases e : lg_cmp (V (i + m)) (Int32.toInt64 (nI (tt (pass T) c))) = 0
      · obtain ⟨ν', a1, a2⟩ := zq_tells_L (V := V) hN s4 hin f (m + 1) ν1 (pass T) (by omega) (by omega) e1 hP hcp (by show ty T + 1 + _ < _; omega) (by rw [s1.2]; exact hV)
        rw [if_neg (fun q => q e), decide_eq_true e, Bool.true_and]
        exact ⟨ν', a1, s1.tr a2⟩
      · rw [if_pos e, decide_eq_false e, Bool.false_and, zq_tells0 (by omega)]
        exact ⟨ν1, rfl, s1⟩
    · have l1 : (nI n ≤ nI m) = True := eq_true (nI_le (by omega) (by omega))
      simp only [l1, if_true]
      rw [show n - m = 0 by omega]
      exact ⟨ν, rfl, zq_Fr.rf⟩
theorem zp_tells {N s c i n : Nat} {V : Nat → Int64} {μ : ZM} {T : Tw} (hN : 300 ≤ N) (s4 : s < 4) (hin : i + n ≤ 24) (hc : CT μ 98 T) (hT : tok T) (hcn : c < tn T) (hy : ty T ≤ 9999) (hV : μ.2 (104 + 2 * s) = V) : ∃ μ', f_X4_trialTells N 0 (nI c) (103 + 2 * s) (nI i) (nI n) μ = some (if zhd V c n i T = true then 1 else 0, μ') ∧ zp_Fr 98 μ μ' :=
  zp_tells_L hN s4 hin N 0 μ T (by omega) (by omega) hc hT hcn (by omega) hV
theorem zq_tells {N s c i n : Nat} {V : Nat → Int64} {ν : ZM} {T : Tw} (hN : 300 ≤ N) (s4 : s < 4) (hin : i + n ≤ 24) (hr : RT ν 2 0 T) (hT : tok T) (hcn : c < tn T) (hy : ty T ≤ 9999) (hV : ∀ j, j < 24 → ν.2 10 (24 * s + j) = V j) : ∃ ν', f_X5_isHeard N 0 (nI c) (nI s) (nI i) (nI n) ν = some (if zhd V c n i T = true then 1 else 0, ν') ∧ zq_Fr 2 ν ν' :=
  zq_tells_L hN s4 hin N 0 ν T (by omega) (by omega) hr hT hcn (by omega) hV
-- what is gathered
def zor (B : Nat → Bool) : Nat → Int32
  | 0 => 0
  | m + 1 => zor B m ||| (if B m = true then 1 <<< (nI m &&& 31) else 0)
def zct (B : Nat → Bool) : Nat → Int32
  | 0 => 0
  | m + 1 => zct B m + (if B m = true then 1 else 0)
def zls (B : Nat → Bool) : Nat → Option Nat
  | 0 => none
  | m + 1 => match zls B m with
    | some x => some x
    | none => if B m = true then some m else none
def zlv (x : Int32) (o : Option Nat) : Int32 := match o with
  | none => x
  | some k => nI k
theorem zn_dn : ∀ m, m < 82 → nI (m + 1) - 1 = nI m ∧ nI m + (-1) = nI m - 1 := by decide +kernel
theorem z20 : ((2 : Int32) = 0) = False := eq_false (by decide)
theorem z21 : ((2 : Int32) = 1) = False := eq_false (by decide)
theorem z30 : ((3 : Int32) = 0) = False := eq_false (by decide)
theorem z31 : ((3 : Int32) = 1) = False := eq_false (by decide)
theorem z32 : ((3 : Int32) = 2) = False := eq_false (by decide)
theorem zg20 : ((2 : Int32) ≤ 0) = False := eq_false (by decide)
theorem zg21 : ((2 : Int32) ≤ 1) = False := eq_false (by decide)
theorem zg22 : ((2 : Int32) ≤ 2) = True := eq_true (by decide)
theorem zg23 : ((2 : Int32) ≤ 3) = True := eq_true (by decide)
theorem zq_hr0_L {N s c i n : Nat} {V : Nat → Int64} {T : Tw} (hN : 300 ≤ N) (s4 : s < 4) (hin : i + n ≤ 24) (hT : tok T) (hy : ty T ≤ 9999) (hc : c < tn T) : ∀ (f m : Nat) (x8 x9 x10 : Int32) (ν : ZM), m < f → m ≤ 5 → RT ν 1 0 T → (∀ j, j < 24 → ν.2 10 (24 * s + j) = V j) → ∃ ν', f_X5_heard_L105 N f 0 (nI c) (nI s) (nI i) (nI n) 0 x8 x9 x10 (nI m - 1) ν = some (x8 ||| zor (fun x => zhd V c n i (Tkd T c x)) m, ν') ∧ zq_Fr 2 ν ν'
  | 0, m, x8, x9, x10, ν, hf, hm, hr, hV => absurd hf (by omega)
  | f + 1, 0, x8, x9, x10, ν, hf, hm, hr, hV => by
    unfold f_X5_heard_L105
    have l0 : (nI 0 - 1 < 0) = True := eq_true (by decide)
    simp only [l0, if_true, zg20, if_false, not_true_eq_false, not_false_eq_true]
    exact ⟨ν, by rw [zor, Int32.or_zero], zq_Fr.rf⟩
  | f + 1, m + 1, x8, x9, x10, ν, hf, hm, hr, hV => by
    unfold f_X5_heard_L105
    have h7 := hT.1
    obtain ⟨d1, d2⟩ := zn_dn m (by omega)
    have l0 : (nI m < 0) = False := eq_false (nI_pos (by omega))
    obtain ⟨ν1, g1, e1, s1⟩ := zq_take (N := N) (by omega) hr hT
    have e2 := e1.k hT.1 (show c < 7 by omega) m
    obtain ⟨ν2, g2, s2⟩ := zq_tells (N := N) (V := V) hN s4 hin e2 (tok_k hT (by omega)) hc hy (by show ∀ j, j < 24 → ν1.2 10 (24 * s + j) = V j; rw [s1.2]; exact hV)
    have S : zq_Fr 2 ν ν2 := (s1.tr zq_Fr.si).tr s2
    rw [show (4 : Int32) = nI 4 from rfl]
    simp only [d1, l0, if_false, g1, Option.bind_some, zg20, not_true_eq_false, not_false_eq_true, if_true, nI_add, zp_o (show 4 + c < 32 by omega) (show 32 < 2 ^ 31 by omega), nI_clamp (show 4 + c < 2 ^ 31 by omega), Bool.false_eq_true, Nat.zero_add, g2, d2]
    by_cases e : zhd V c n i (Tkd T c m) = true
    · simp only [e, if_true, zt10, if_false]
      obtain ⟨ν', a1, a2⟩ := zq_hr0_L (V := V) hN s4 hin hT hy hc f m (x8 ||| (1 <<< (nI m &&& 31))) (x9 + 1) (nI m) ν2 (by omega) (by omega) (hr.fr (S.1 1 (by decide) (by decide))) (by rw [S.2]; exact hV)
      exact ⟨ν', by rw [a1, zor, if_pos e, Int32.or_assoc, Int32.or_comm (zor _ m)], S.tr a2⟩
    · simp only [e, if_true, if_false, Bool.false_eq_true]
      obtain ⟨ν', a1, a2⟩ := zq_hr0_L (V := V) hN s4 hin hT hy hc f m x8 x9 x10 ν2 (by omega) (by omega) (hr.fr (S.1 1 (by decide) (by decide))) (by rw [S.2]; exact hV)
      exact ⟨ν', by rw [a1, zor, if_neg e, Int32.or_zero], S.tr a2⟩
theorem zq_hr1_L {N s c i n : Nat} {V : Nat → Int64} {T : Tw} (hN : 300 ≤ N) (s4 : s < 4) (hin : i + n ≤ 24) (hT : tok T) (hy : ty T ≤ 9999) (hc : c < tn T) : ∀ (f m : Nat) (x8 x9 x10 : Int32) (ν : ZM), m < f → m ≤ 20 → RT ν 1 0 T → (∀ j, j < 24 → ν.2 10 (24 * s + j) = V j) → ∃ ν', f_X5_heard_L105 N f 0 (nI c) (nI s) (nI i) (nI n) 1 x8 x9 x10 (nI m - 1) ν = some (x8 ||| zor (fun x => zhd V c n i (Ttm T c x)) m, ν') ∧ zq_Fr 2 ν ν'
  | 0, m, x8, x9, x10, ν, hf, hm, hr, hV => absurd hf (by omega)
  | f + 1, 0, x8, x9, x10, ν, hf, hm, hr, hV => by
    unfold f_X5_heard_L105
    have l0 : (nI 0 - 1 < 0) = True := eq_true (by decide)
    simp only [l0, if_true, zt10, zg21, if_false, not_true_eq_false, not_false_eq_true]
    exact ⟨ν, by rw [zor, Int32.or_zero], zq_Fr.rf⟩
  | f + 1, m + 1, x8, x9, x10, ν, hf, hm, hr, hV => by
    unfold f_X5_heard_L105
    have h7 := hT.1
    obtain ⟨d1, d2⟩ := zn_dn m (by omega)
    have l0 : (nI m < 0) = False := eq_false (nI_pos (by omega))
    obtain ⟨ν1, g1, e1, s1⟩ := zq_take (N := N) (by omega) hr hT
    have e2 := e1.t hT.1 (show c < 7 by omega) m
    obtain ⟨ν2, g2, s2⟩ := zq_tells (N := N) (V := V) hN s4 hin e2 (tok_t hT (by omega)) hc hy (by show ∀ j, j < 24 → ν1.2 10 (24 * s + j) = V j; rw [s1.2]; exact hV)
    have S : zq_Fr 2 ν ν2 := (s1.tr zq_Fr.si).tr s2
    rw [show (25 : Int32) = nI 25 from rfl]
    simp only [d1, l0, if_false, g1, Option.bind_some, zt10, zg21, not_true_eq_false, not_false_eq_true, if_true, nI_add, zp_o (show 25 + c < 32 by omega) (show 32 < 2 ^ 31 by omega), nI_clamp (show 25 + c < 2 ^ 31 by omega), Bool.false_eq_true, Nat.zero_add, g2, d2]
    by_cases e : zhd V c n i (Ttm T c m) = true
    · simp only [e, if_true, zt10, if_false]
      obtain ⟨ν', a1, a2⟩ := zq_hr1_L (V := V) hN s4 hin hT hy hc f m (x8 ||| (1 <<< (nI m &&& 31))) (x9 + 1) (nI m) ν2 (by omega) (by omega) (hr.fr (S.1 1 (by decide) (by decide))) (by rw [S.2]; exact hV)
      exact ⟨ν', by rw [a1, zor, if_pos e, Int32.or_assoc, Int32.or_comm (zor _ m)], S.tr a2⟩
    · simp only [e, if_true, if_false, Bool.false_eq_true]
      obtain ⟨ν', a1, a2⟩ := zq_hr1_L (V := V) hN s4 hin hT hy hc f m x8 x9 x10 ν2 (by omega) (by omega) (hr.fr (S.1 1 (by decide) (by decide))) (by rw [S.2]; exact hV)
      exact ⟨ν', by rw [a1, zor, if_neg e, Int32.or_zero], S.tr a2⟩
theorem zq_hr2_L {N s c i n : Nat} {V : Nat → Int64} {T : Tw} (hN : 300 ≤ N) (s4 : s < 4) (hin : i + n ≤ 24) (hT : tok T) (hy : ty T ≤ 9999) (hc : c < tn T) : ∀ (f m : Nat) (x8 x9 x10 : Int32) (ν : ZM), m < f → m ≤ 81 → RT ν 1 0 T → (∀ j, j < 24 → ν.2 10 (24 * s + j) = V j) → ∃ ν', f_X5_heard_L105 N f 0 (nI c) (nI s) (nI i) (nI n) 2 x8 x9 x10 (nI m - 1) ν = some (x9 + zct (fun x => zhd V c n i (Twd T c x)) m, ν') ∧ zq_Fr 2 ν ν'
  | 0, m, x8, x9, x10, ν, hf, hm, hr, hV => absurd hf (by omega)
  | f + 1, 0, x8, x9, x10, ν, hf, hm, hr, hV => by
    unfold f_X5_heard_L105
    have l0 : (nI 0 - 1 < 0) = True := eq_true (by decide)
    simp only [l0, if_true, z20, z21, zg22, if_false, not_true_eq_false, not_false_eq_true]
    exact ⟨ν, by rw [zct, Int32.add_zero], zq_Fr.rf⟩
  | f + 1, m + 1, x8, x9, x10, ν, hf, hm, hr, hV => by
    unfold f_X5_heard_L105
    have h7 := hT.1
    obtain ⟨d1, d2⟩ := zn_dn m (by omega)
    have l0 : (nI m < 0) = False := eq_false (nI_pos (by omega))
    obtain ⟨ν1, g1, e1, s1⟩ := zq_take (N := N) (by omega) hr hT
    have e2 := e1.w hT.1 (show c < 7 by omega) m
    obtain ⟨ν2, g2, s2⟩ := zq_tells (N := N) (V := V) hN s4 hin e2 (tok_w hT (by omega)) hc hy (by show ∀ j, j < 24 → ν1.2 10 (24 * s + j) = V j; rw [s1.2]; exact hV)
    have S : zq_Fr 2 ν ν2 := (s1.tr zq_Fr.si).tr s2
    rw [show (11 : Int32) = nI 11 from rfl]
    simp only [d1, l0, if_false, g1, Option.bind_some, z20, z21, zg22, not_true_eq_false, not_false_eq_true, if_true, nI_add, zp_o (show 11 + c < 32 by omega) (show 32 < 2 ^ 31 by omega), nI_clamp (show 11 + c < 2 ^ 31 by omega), Bool.false_eq_true, Nat.zero_add, g2, d2]
    by_cases e : zhd V c n i (Twd T c m) = true
    · simp only [e, if_true, zt10, if_false]
      obtain ⟨ν', a1, a2⟩ := zq_hr2_L (V := V) hN s4 hin hT hy hc f m (x8 ||| 0) (x9 + 1) (nI m) ν2 (by omega) (by omega) (hr.fr (S.1 1 (by decide) (by decide))) (by rw [S.2]; exact hV)
      exact ⟨ν', by rw [a1, zct, if_pos e, Int32.add_assoc, Int32.add_comm (zct _ m)], S.tr a2⟩
    · simp only [e, if_true, if_false, Bool.false_eq_true]
      obtain ⟨ν', a1, a2⟩ := zq_hr2_L (V := V) hN s4 hin hT hy hc f m x8 x9 x10 ν2 (by omega) (by omega) (hr.fr (S.1 1 (by decide) (by decide))) (by rw [S.2]; exact hV)
      exact ⟨ν', by rw [a1, zct, if_neg e, Int32.add_zero], S.tr a2⟩
theorem zq_hr3_L {N s c i n : Nat} {V : Nat → Int64} {T : Tw} (hN : 300 ≤ N) (s4 : s < 4) (hin : i + n ≤ 24) (hT : tok T) (hy : ty T ≤ 9999) (hc : c < tn T) : ∀ (f m : Nat) (x8 x9 x10 : Int32) (ν : ZM), m < f → m ≤ 81 → RT ν 1 0 T → (∀ j, j < 24 → ν.2 10 (24 * s + j) = V j) → ∃ ν', f_X5_heard_L105 N f 0 (nI c) (nI s) (nI i) (nI n) 3 x8 x9 x10 (nI m - 1) ν = some (zlv x10 (zls (fun x => zhd V c n i (Twd T c x)) m), ν') ∧ zq_Fr 2 ν ν'
  | 0, m, x8, x9, x10, ν, hf, hm, hr, hV => absurd hf (by omega)
  | f + 1, 0, x8, x9, x10, ν, hf, hm, hr, hV => by
    unfold f_X5_heard_L105
    have l0 : (nI 0 - 1 < 0) = True := eq_true (by decide)
    simp only [l0, if_true, z30, z31, z32, zg23, if_false, not_true_eq_false, not_false_eq_true]
    exact ⟨ν, rfl, zq_Fr.rf⟩
  | f + 1, m + 1, x8, x9, x10, ν, hf, hm, hr, hV => by
    unfold f_X5_heard_L105
    have h7 := hT.1
    obtain ⟨d1, d2⟩ := zn_dn m (by omega)
    have l0 : (nI m < 0) = False := eq_false (nI_pos (by omega))
    obtain ⟨ν1, g1, e1, s1⟩ := zq_take (N := N) (by omega) hr hT
    have e2 := e1.w hT.1 (show c < 7 by omega) m
    obtain ⟨ν2, g2, s2⟩ := zq_tells (N := N) (V := V) hN s4 hin e2 (tok_w hT (by omega)) hc hy (by show ∀ j, j < 24 → ν1.2 10 (24 * s + j) = V j; rw [s1.2]; exact hV)
    have S : zq_Fr 2 ν ν2 := (s1.tr zq_Fr.si).tr s2
    rw [show (11 : Int32) = nI 11 from rfl]
    simp only [d1, l0, if_false, g1, Option.bind_some, z30, z31, z32, zg23, not_true_eq_false, not_false_eq_true, if_true, nI_add, zp_o (show 11 + c < 32 by omega) (show 32 < 2 ^ 31 by omega), nI_clamp (show 11 + c < 2 ^ 31 by omega), Bool.false_eq_true, Nat.zero_add, g2, d2]
    by_cases e : zhd V c n i (Twd T c m) = true
    · simp only [e, if_true, zt10, if_false]
      obtain ⟨ν', a1, a2⟩ := zq_hr3_L (V := V) hN s4 hin hT hy hc f m (x8 ||| 0) (x9 + 1) (nI m) ν2 (by omega) (by omega) (hr.fr (S.1 1 (by decide) (by decide))) (by rw [S.2]; exact hV)
      exact ⟨ν', by rw [a1, zls]; cases zls _ m with | none => simp only [e, if_true]; rfl | some k => rfl, S.tr a2⟩
    · simp only [e, if_true, if_false, Bool.false_eq_true]
      obtain ⟨ν', a1, a2⟩ := zq_hr3_L (V := V) hN s4 hin hT hy hc f m x8 x9 x10 ν2 (by omega) (by omega) (hr.fr (S.1 1 (by decide) (by decide))) (by rw [S.2]; exact hV)
      exact ⟨ν', by rw [a1, zls]; cases zls _ m with | none => simp only [e, if_false, Bool.false_eq_true] | some k => rfl, S.tr a2⟩
theorem zp_hr0_L {N s c i n : Nat} {V : Nat → Int64} {T : Tw} (hN : 300 ≤ N) (s4 : s < 4) (hin : i + n ≤ 24) (hT : tok T) (hy : ty T ≤ 9999) (hcn : c < tn T) : ∀ (f m : Nat) (μ : ZM), 5 < m + f → m ≤ 5 → CT μ 1 T → μ.2 (104 + 2 * s) = V → ∃ μ', f_X4_kindsHeard_L6 N f 0 (nI c) (103 + 2 * s) (nI i) (nI n) (zor (fun x => zhd V c n i (Tkd T c x)) m) (nI m) μ = some (zor (fun x => zhd V c n i (Tkd T c x)) 5, μ') ∧ zp_Fr 98 μ μ'
  | 0, m, μ, hf, hm, hc, hV => absurd hf (by omega)
  | f + 1, m, μ, hf, hm, hc, hV => by
    unfold f_X4_kindsHeard_L6
    have h7 := hT.1
    by_cases hl : m < 5
    · have l1 : ((5 : Int32) ≤ nI m) = False := eq_false (nI_ge (b := 5) hl (by omega))
      obtain ⟨μ1, f1, c1, r1⟩ := zp_become (N := N) (a := 98) (b := 1) hc hT.1 (by omega)
      have c2 := c1.k c m
      obtain ⟨μ2, f2, r2⟩ := zp_tells (N := N) (V := V) hN s4 hin c2 (tok_k hT (by omega)) hcn hy (by show μ1.2 (104 + 2 * s) = V; rw [r1.2]; exact hV)
      have R : zp_Fr 98 μ μ2 := (r1.tr (zp_Fr.si (by omega) (by omega))).tr r2
      have f2 : f_X4_trialTells N 0 (nI c) (103 + 2 * s) (nI i) (nI n) (zk_si μ1 99 c (nI m)) = _ := f2
      simp only [l1, if_false, f1, Option.bind_some, zp_o (show c < 7 by omega) (show 7 < 2 ^ 31 by omega), nI_clamp (show c < 2 ^ 31 by omega), Bool.false_eq_true, Nat.zero_add, Nat.reduceAdd, f2, nI_1]
      have ih := zp_hr0_L (V := V) hN s4 hin hT hy hcn f (m + 1) μ2 (by omega) (by omega) (hc.fr' (fun k k1 k2 => R.1 k (by omega))) (by rw [R.2]; exact hV)
      by_cases e : zhd V c n i (Tkd T c m) = true
      · simp only [e, if_true, zt10, if_false]
        rw [zor] at ih
        simp only [e, if_true] at ih
        obtain ⟨μ', a1, a2⟩ := ih
        exact ⟨μ', a1, R.tr a2⟩
      · simp only [e, if_true, if_false, Bool.false_eq_true]
        rw [zor] at ih
        simp only [e, if_false, Bool.false_eq_true, Int32.or_zero] at ih
        obtain ⟨μ', a1, a2⟩ := ih
        exact ⟨μ', a1, R.tr a2⟩
    · have l1 : ((5 : Int32) ≤ nI m) = True := eq_true (nI_le (a := 5) (by omega) (by omega))
      have : m = 5 := by omega
      subst this
      simp only [l1, if_true]
      exact ⟨μ, rfl, zp_Fr.rf⟩
theorem zp_hr1_L {N s c i n : Nat} {V : Nat → Int64} {T : Tw} (hN : 300 ≤ N) (s4 : s < 4) (hin : i + n ≤ 24) (hT : tok T) (hy : ty T ≤ 9999) (hcn : c < tn T) : ∀ (f m : Nat) (μ : ZM), 20 < m + f → m ≤ 20 → CT μ 1 T → μ.2 (104 + 2 * s) = V → ∃ μ', f_X4_tempersHeard_L6 N f 0 (nI c) (103 + 2 * s) (nI i) (nI n) (zor (fun x => zhd V c n i (Ttm T c x)) m) (nI m) μ = some (zor (fun x => zhd V c n i (Ttm T c x)) 20, μ') ∧ zp_Fr 98 μ μ'
  | 0, m, μ, hf, hm, hc, hV => absurd hf (by omega)
  | f + 1, m, μ, hf, hm, hc, hV => by
    unfold f_X4_tempersHeard_L6
    have h7 := hT.1
    by_cases hl : m < 20
    · have l1 : ((19 : Int32) < nI m) = False := eq_false (nI_nlt (a := 19) (by omega) (by omega))
      obtain ⟨μ1, f1, c1, r1⟩ := zp_become (N := N) (a := 98) (b := 1) hc hT.1 (by omega)
      have c2 := c1.t c m
      obtain ⟨μ2, f2, r2⟩ := zp_tells (N := N) (V := V) hN s4 hin c2 (tok_t hT (by omega)) hcn hy (by show μ1.2 (104 + 2 * s) = V; rw [r1.2]; exact hV)
      have R : zp_Fr 98 μ μ2 := (r1.tr (zp_Fr.si (by omega) (by omega))).tr r2
      have f2 : f_X4_trialTells N 0 (nI c) (103 + 2 * s) (nI i) (nI n) (zk_si μ1 102 c (nI m)) = _ := f2
      simp only [l1, if_false, f1, Option.bind_some, zp_o (show c < 7 by omega) (show 7 < 2 ^ 31 by omega), nI_clamp (show c < 2 ^ 31 by omega), Bool.false_eq_true, Nat.zero_add, Nat.reduceAdd, f2, nI_1]
      have ih := zp_hr1_L (V := V) hN s4 hin hT hy hcn f (m + 1) μ2 (by omega) (by omega) (hc.fr' (fun k k1 k2 => R.1 k (by omega))) (by rw [R.2]; exact hV)
      by_cases e : zhd V c n i (Ttm T c m) = true
      · simp only [e, if_true, zt10, if_false]
        rw [zor] at ih
        simp only [e, if_true] at ih
        obtain ⟨μ', a1, a2⟩ := ih
        exact ⟨μ', a1, R.tr a2⟩
      · simp only [e, if_true, if_false, Bool.false_eq_true]
        rw [zor] at ih
        simp only [e, if_false, Bool.false_eq_true, Int32.or_zero] at ih
        obtain ⟨μ', a1, a2⟩ := ih
        exact ⟨μ', a1, R.tr a2⟩
    · have l1 : ((19 : Int32) < nI m) = True := eq_true (nI_lt (a := 19) (by omega) (by omega))
      have : m = 20 := by omega
      subst this
      simp only [l1, if_true]
      exact ⟨μ, rfl, zp_Fr.rf⟩
theorem zp_wtells {N s c i n m : Nat} {V : Nat → Int64} {T : Tw} {μ : ZM} (hN : 300 ≤ N) (s4 : s < 4) (hin : i + n ≤ 24) (hT : tok T) (hy : ty T ≤ 9999) (hcn : c < tn T) (hm : m ≤ 99) (hc : CT μ 1 T) (hV : μ.2 (104 + 2 * s) = V) : ∃ μ', f_X4_wedTells N 0 (nI c) (nI m) (103 + 2 * s) (nI i) (nI n) μ = some (if zhd V c n i (Twd T c m) = true then 1 else 0, μ') ∧ zp_Fr 98 μ μ' := by
  have h7 := hT.1
  unfold f_X4_wedTells
  obtain ⟨μ1, f1, c1, r1⟩ := zp_become (N := N) (a := 98) (b := 1) hc hT.1 (by omega)
  have c2 := c1.w c m
  obtain ⟨μ2, f2, r2⟩ := zp_tells (N := N) (V := V) hN s4 hin c2 (tok_w hT (by omega)) hcn hy (by show μ1.2 (104 + 2 * s) = V; rw [r1.2]; exact hV)
  have R : zp_Fr 98 μ μ2 := (r1.tr (zp_Fr.si (by omega) (by omega))).tr r2
  have f2 : f_X4_trialTells N 0 (nI c) (103 + 2 * s) (nI i) (nI n) (zk_si μ1 100 c (nI m)) = _ := f2
  simp only [f1, Option.bind_some, zp_o (show c < 7 by omega) (show 7 < 2 ^ 31 by omega), nI_clamp (show c < 2 ^ 31 by omega), Bool.false_eq_true, if_false, Nat.zero_add, Nat.reduceAdd, f2]
  refine ⟨μ2, ?_, R⟩
  cases zhd V c n i (Twd T c m) with
  | false => rfl
  | true => rfl
theorem zp_hr2_L {N s c i n : Nat} {V : Nat → Int64} {T : Tw} (hN : 300 ≤ N) (s4 : s < 4) (hin : i + n ≤ 24) (hT : tok T) (hy : ty T ≤ 9999) (hcn : c < tn T) : ∀ (f m : Nat) (μ : ZM), 81 < m + f → m ≤ 81 → CT μ 1 T → μ.2 (104 + 2 * s) = V → ∃ μ', f_X4_howManyWedHeard_L6 N f 0 (nI c) (103 + 2 * s) (nI i) (nI n) (zct (fun x => zhd V c n i (Twd T c x)) m) (nI m) μ = some (zct (fun x => zhd V c n i (Twd T c x)) 81, μ') ∧ zp_Fr 98 μ μ'
  | 0, m, μ, hf, hm, hc, hV => absurd hf (by omega)
  | f + 1, m, μ, hf, hm, hc, hV => by
    unfold f_X4_howManyWedHeard_L6
    by_cases hl : m < 81
    · have l1 : ((80 : Int32) < nI m) = False := eq_false (nI_nlt (a := 80) (by omega) (by omega))
      obtain ⟨μ2, f2, R⟩ := zp_wtells (N := N) (m := m) hN s4 hin hT hy hcn (by omega) hc hV
      simp only [l1, if_false, f2, Option.bind_some, nI_1]
      have ih := zp_hr2_L (V := V) hN s4 hin hT hy hcn f (m + 1) μ2 (by omega) (by omega) (hc.fr' (fun k k1 k2 => R.1 k (by omega))) (by rw [R.2]; exact hV)
      by_cases e : zhd V c n i (Twd T c m) = true
      · simp only [e, if_true, zt10, if_false]
        rw [zct] at ih
        simp only [e, if_true] at ih
        obtain ⟨μ', a1, a2⟩ := ih
        exact ⟨μ', a1, R.tr a2⟩
      · simp only [e, if_true, if_false, Bool.false_eq_true]
        rw [zct] at ih
        simp only [e, if_false, Bool.false_eq_true, Int32.add_zero] at ih
        obtain ⟨μ', a1, a2⟩ := ih
        exact ⟨μ', a1, R.tr a2⟩
    · have l1 : ((80 : Int32) < nI m) = True := eq_true (nI_lt (a := 80) (by omega) (by omega))
      have : m = 81 := by omega
      subst this
      simp only [l1, if_true]
      exact ⟨μ, rfl, zp_Fr.rf⟩
theorem zls_up {B : Nat → Bool} {m k : Nat} (h : zls B m = some k) : ∀ r, zls B (m + r) = some k
  | 0 => h
  | r + 1 => by
    show (match zls B (m + r) with | some x => some x | none => if B (m + r) = true then some (m + r) else none) = _
    rw [zls_up h r]
theorem zp_hr3_L {N s c i n : Nat} {V : Nat → Int64} {T : Tw} (hN : 300 ≤ N) (s4 : s < 4) (hin : i + n ≤ 24) (hT : tok T) (hy : ty T ≤ 9999) (hcn : c < tn T) : ∀ (f m : Nat) (μ : ZM), 81 < m + f → m ≤ 81 → zls (fun x => zhd V c n i (Twd T c x)) m = none → CT μ 1 T → μ.2 (104 + 2 * s) = V → ∃ μ', f_X4_leastWedHeard_L3 N f 0 (nI c) (103 + 2 * s) (nI i) (nI n) (nI m) μ = some (zlv (-4) (zls (fun x => zhd V c n i (Twd T c x)) 81), μ') ∧ zp_Fr 98 μ μ'
  | 0, m, μ, hf, hm, hz, hc, hV => absurd hf (by omega)
  | f + 1, m, μ, hf, hm, hz, hc, hV => by
    unfold f_X4_leastWedHeard_L3
    by_cases hl : m < 81
    · have l1 : ((80 : Int32) < nI m) = False := eq_false (nI_nlt (a := 80) (by omega) (by omega))
      obtain ⟨μ2, f2, R⟩ := zp_wtells (N := N) (m := m) hN s4 hin hT hy hcn (by omega) hc hV
      simp only [l1, if_false, f2, Option.bind_some, nI_1]
      by_cases e : zhd V c n i (Twd T c m) = true
      · simp only [e, if_true, zt10, if_false]
        have h1 : zls (fun x => zhd V c n i (Twd T c x)) (m + 1) = some m := by
          rw [zls, hz]
          simp only [e, if_true]
        have h2 := zls_up h1 (81 - (m + 1))
        rw [show m + 1 + (81 - (m + 1)) = 81 by omega] at h2
        rw [h2]
        exact ⟨μ2, rfl, R⟩
      · simp only [e, if_true, if_false, Bool.false_eq_true]
        have h1 : zls (fun x => zhd V c n i (Twd T c x)) (m + 1) = none := by
          rw [zls, hz]
          simp only [e, if_false, Bool.false_eq_true]
        obtain ⟨μ', a1, a2⟩ := zp_hr3_L (V := V) hN s4 hin hT hy hcn f (m + 1) μ2 (by omega) (by omega) h1 (hc.fr' (fun k k1 k2 => R.1 k (by omega))) (by rw [R.2]; exact hV)
        exact ⟨μ', a1, R.tr a2⟩
    · have l1 : ((80 : Int32) < nI m) = True := eq_true (nI_lt (a := 80) (by omega) (by omega))
      have : m = 81 := by omega
      subst this
      simp only [l1, if_true]
      rw [hz]
      exact ⟨μ, rfl, zp_Fr.rf⟩
theorem zl_heard {N : Nat} (hN : 300 ≤ N) (a b c d e g : Int32) : zl_ok zr_rel (f_X4_heard N 0 a b c d e g) (f_X5_heard N 0 a b c d e g) := by
  intro μ ν hR
  obtain ⟨⟨T, hc, hr, hT, hy⟩, _, _, _, hs⟩ := id hR
  unfold f_X4_heard f_X5_heard
  rcases zp_couple (N := N) (x := a) hT with ⟨k, k1, rfl, p1, p2⟩ | ⟨p1, p2⟩
  · rcases zp_four (N := N) b with ⟨s, s4, rfl, q1, _, q2, _⟩ | ⟨q1, _, q2, _⟩
    · rcases zp_four (N := N) c with ⟨l, l4, rfl, _, o1, _, o2⟩ | ⟨_, o1, _, o2⟩
      · rcases zp_in (N := N) (a := 1) (b := 8) (x := e) (by omega) (by omega) with ⟨n, n1, n2, rfl, e1, e2⟩ | ⟨e1, e2⟩
        · have e1 : ∀ μ, f_X4_within N (nI n) 1 8 μ = some (1, μ) := e1
          have e2 : ∀ μ, f_X5_in N (nI n) 1 8 μ = some (1, μ) := e2
          rcases zp_in (N := N) (a := 0) (b := 3) (x := g) (by omega) (by omega) with ⟨md, _, md3, rfl, e3, e4⟩ | ⟨e3, e4⟩
          · have e3 : ∀ μ, f_X4_within N (nI md) 0 3 μ = some (1, μ) := e3
            have e4 : ∀ μ, f_X5_in N (nI md) 0 3 μ = some (1, μ) := e4
            have es : 97 + 6 + 2 * s = 103 + 2 * s := by omega
            obtain ⟨v, f1, g1, hv⟩ := zs_find (N := N) s4 l4 (hs s s4) d (nI n)
            obtain ⟨_, _, _, _, _, _, _, _, hV⟩ := hs s s4
            simp only [p1 μ hc, p2 ν hr, e1, e2, e3, e4, q1, q2, o1, o2, Option.bind_some, zt10, if_false, if_true, not_false_eq_true, zp_o s4 (show 4 < 2 ^ 31 by omega), nI_clamp (show s < 2 ^ 31 by omega), Bool.false_eq_true, Nat.zero_add, es, f1, g1]
            rcases hv with hv | ⟨hv, w, i, m, w24, rfl, c1, hic, m1, m2⟩
            · simp only [hv, if_false]
              exact ⟨v, μ, ν, rfl, rfl, hR⟩
            · have c1 : n = m := (nI_eq (by omega) (by omega)).mp c1
              subst c1
              have hin24 : i + n ≤ 24 := by omega
              rcases (show md = 0 ∨ md = 1 ∨ md = 2 ∨ md = 3 by omega) with rfl | rfl | rfl | rfl
              · obtain ⟨μ', b1, r1⟩ := zp_hr0_L (c := k) hN s4 hin24 hT hy k1 N 0 μ (by omega) (by omega) hc rfl
                obtain ⟨ν', b2, r2⟩ := zq_hr0_L (c := k) (V := μ.2 (104 + 2 * s)) hN s4 hin24 hT hy k1 N 5 0 0 (-4) ν (by omega) (by omega) hr (fun j hj => (hV j hj).symm)
                have b1 : f_X4_kindsHeard N 0 (nI k) (103 + 2 * s) (nI i) (nI n) μ = _ := b1
                rw [Int32.zero_or] at b2
                have b2 : f_X5_heard_L105 N N 0 (nI k) (nI s) (nI i) (nI n) 0 0 0 (-4) 4 ν = _ := b2
                have t0 : nI 0 = (0 : Int32) := rfl
                simp only [t0, hv, if_true, if_false, not_true_eq_false, not_false_eq_true, b1, b2, Option.bind_some]
                exact ⟨_, μ', ν', rfl, rfl, zr_ask hR r1 r2⟩
              · obtain ⟨μ', b1, r1⟩ := zp_hr1_L (c := k) hN s4 hin24 hT hy k1 N 0 μ (by omega) (by omega) hc rfl
                obtain ⟨ν', b2, r2⟩ := zq_hr1_L (c := k) (V := μ.2 (104 + 2 * s)) hN s4 hin24 hT hy k1 N 20 0 0 (-4) ν (by omega) (by omega) hr (fun j hj => (hV j hj).symm)
                have b1 : f_X4_tempersHeard N 0 (nI k) (103 + 2 * s) (nI i) (nI n) μ = _ := b1
                rw [Int32.zero_or] at b2
                have b2 : f_X5_heard_L105 N N 0 (nI k) (nI s) (nI i) (nI n) 1 0 0 (-4) 19 ν = _ := b2
                have t1 : nI 1 = (1 : Int32) := rfl
                simp only [t1, zt10, hv, if_true, if_false, not_true_eq_false, not_false_eq_true, b1, b2, Option.bind_some]
                exact ⟨_, μ', ν', rfl, rfl, zr_ask hR r1 r2⟩
              · obtain ⟨μ', b1, r1⟩ := zp_hr2_L (c := k) hN s4 hin24 hT hy k1 N 0 μ (by omega) (by omega) hc rfl
                obtain ⟨ν', b2, r2⟩ := zq_hr2_L (c := k) (V := μ.2 (104 + 2 * s)) hN s4 hin24 hT hy k1 N 81 0 0 (-4) ν (by omega) (by omega) hr (fun j hj => (hV j hj).symm)
                have b1 : f_X4_howManyWedHeard N 0 (nI k) (103 + 2 * s) (nI i) (nI n) μ = _ := b1
                rw [Int32.zero_add] at b2
                have b2 : f_X5_heard_L105 N N 0 (nI k) (nI s) (nI i) (nI n) 2 0 0 (-4) 80 ν = _ := b2
                have t2 : nI 2 = (2 : Int32) := rfl
                simp only [t2, z20, z21, hv, if_true, if_false, not_true_eq_false, not_false_eq_true, b1, b2, Option.bind_some]
                exact ⟨_, μ', ν', rfl, rfl, zr_ask hR r1 r2⟩
              · obtain ⟨μ', b1, r1⟩ := zp_hr3_L (c := k) hN s4 hin24 hT hy k1 N 0 μ (by omega) (by omega) rfl hc rfl
                obtain ⟨ν', b2, r2⟩ := zq_hr3_L (c := k) (V := μ.2 (104 + 2 * s)) hN s4 hin24 hT hy k1 N 81 0 0 (-4) ν (by omega) (by omega) hr (fun j hj => (hV j hj).symm)
                have b1 : f_X4_leastWedHeard N 0 (nI k) (103 + 2 * s) (nI i) (nI n) μ = _ := b1
                
                have b2 : f_X5_heard_L105 N N 0 (nI k) (nI s) (nI i) (nI n) 3 0 0 (-4) 80 ν = _ := b2
                have t3 : nI 3 = (3 : Int32) := rfl
                simp only [t3, z30, z31, z32, hv, if_true, if_false, not_true_eq_false, not_false_eq_true, b1, b2, Option.bind_some]
                exact ⟨_, μ', ν', rfl, rfl, zr_ask hR r1 r2⟩
          · have e3 : ∀ μ, f_X4_within N g 0 3 μ = some (0, μ) := e3
            have e4 : ∀ μ, f_X5_in N g 0 3 μ = some (0, μ) := e4
            simp only [p1 μ hc, p2 ν hr, e1, e2, e3, e4, q1, q2, o1, o2, Option.bind_some, zt10, if_false, not_true_eq_false]
            exact ⟨-1, μ, ν, rfl, rfl, hR⟩
        · have e1 : ∀ μ, f_X4_within N e 1 8 μ = some (0, μ) := e1
          have e2 : ∀ μ, f_X5_in N e 1 8 μ = some (0, μ) := e2
          simp only [p1 μ hc, p2 ν hr, e1, e2, q1, q2, o1, o2, Option.bind_some, zt10, if_false, if_true]
          exact ⟨-1, μ, ν, rfl, rfl, hR⟩
      · simp only [p1 μ hc, p2 ν hr, q1, q2, o1, o2, Option.bind_some, zt10, if_false, if_true]
        exact ⟨-1, μ, ν, rfl, rfl, hR⟩
    · simp only [p1 μ hc, p2 ν hr, q1, q2, Option.bind_some, zt10, if_false, if_true]
      exact ⟨-1, μ, ν, rfl, rfl, hR⟩
  · simp only [p1 μ hc, p2 ν hr, Option.bind_some, if_true]
    exact ⟨-1, μ, ν, rfl, rfl, hR⟩
