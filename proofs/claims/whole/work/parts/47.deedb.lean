-- nursing, stirring, wedding anew: what is done to a town
theorem zp_brt : ∀ t, t < 20 → ∀ n, n < 21 → (if (0 : Int32) < nI t - nI n then nI t - nI n else 0) = nI (t - n) ∧ (if nI t ≤ nI n then 0 else nI t - nI n) = nI (t - n) := by decide +kernel
theorem zp_better {N a i n : Nat} {μ : ZM} {T : Tw} (h : CT μ a T) (hT : tok T) (hi : i < tn T) (hn : n ≤ 20) : ∃ μ', f_X3_better N a (nI i) (nI n) μ = some μ' ∧ CT μ' a (Ttm T i (tt T i - n)) ∧ zp_Fr a μ μ' := by
  have h7 := hT.1
  have ht := (hT.2.2.2 i hi).2.2.2
  unfold f_X3_better
  simp only [zp_o (show i < 7 by omega) (show 7 < 2 ^ 31 by omega), nI_clamp (show i < 2 ^ 31 by omega), Bool.false_eq_true, if_false]
  rw [(h.2.2.2.2 i hi).2.2.2, (zp_brt (tt T i) (by omega) n (by omega)).1]
  exact ⟨_, rfl, h.t i _, zp_Fr.si (by omega) (by omega)⟩
theorem zq_nurse {N r i n : Nat} {ν : ZM} {T : Tw} (h : RT ν r 0 T) (hT : tok T) (hi : i < tn T) (hn : n ≤ 20) : ∃ ν', f_X5_nurseOn N r (nI i) (nI n) ν = some ν' ∧ RT ν' r 0 (Ttm T i (tt T i - n)) ∧ zq_Fr r ν ν' := by
  have h7 := hT.1
  have ht := (hT.2.2.2 i hi).2.2.2
  have e := (zp_brt (tt T i) (by omega) n (by omega)).2
  have a4 := (zq_at h hi).2.2.2
  unfold f_X5_nurseOn
  rw [show (25 : Int32) = nI 25 from rfl, nI_add]
  simp only [zp_o (show 25 + i < 32 by omega) (show 32 < 2 ^ 31 by omega), nI_clamp (show 25 + i < 2 ^ 31 by omega), Bool.false_eq_true, if_false]
  rw [a4]
  by_cases q : nI (tt T i) ≤ nI n
  · rw [if_pos q] at e ⊢
    rw [e]
    exact ⟨_, rfl, h.t h7 (by omega) _, zq_Fr.si⟩
  · rw [if_neg q] at e ⊢
    rw [e]
    exact ⟨_, rfl, h.t h7 (by omega) _, zq_Fr.si⟩
theorem tok_t {T : Tw} (hT : tok T) {i v : Nat} (hv : v ≤ 19) : tok (Ttm T i v) := by
  refine ⟨hT.1, hT.2.1, hT.2.2.1, fun j hj => ?_⟩
  obtain ⟨b1, b2, b3, b4⟩ := hT.2.2.2 j hj
  refine ⟨b1, b2, b3, ?_⟩
  show upN (tt T) i v j ≤ 19
  unfold upN
  split <;> omega
theorem tok_k {T : Tw} (hT : tok T) {i v : Nat} (hv : v ≤ 4) : tok (Tkd T i v) := by
  refine ⟨hT.1, hT.2.1, hT.2.2.1, fun j hj => ?_⟩
  obtain ⟨b1, b2, b3, b4⟩ := hT.2.2.2 j hj
  refine ⟨?_, b2, b3, b4⟩
  show upN (tk T) i v j ≤ 4
  unfold upN
  split <;> omega
theorem tok_w {T : Tw} (hT : tok T) {i v : Nat} (hv : v ≤ 99) : tok (Twd T i v) := by
  refine ⟨hT.1, hT.2.1, hT.2.2.1, fun j hj => ?_⟩
  obtain ⟨b1, b2, b3, b4⟩ := hT.2.2.2 j hj
  refine ⟨b1, ?_, b3, b4⟩
  show upN (tw T) i v j ≤ 99
  unfold upN
  split <;> omega
theorem tok_o {T : Tw} (hT : tok T) {i v : Nat} (hv : v ≤ 99) : tok (Tol T i v) := by
  refine ⟨hT.1, hT.2.1, hT.2.2.1, fun j hj => ?_⟩
  obtain ⟨b1, b2, b3, b4⟩ := hT.2.2.2 j hj
  refine ⟨b1, b2, ?_, b4⟩
  show upN (to_ T) i v j ≤ 99
  unfold upN
  split <;> omega
theorem tok_gg {T : Tw} (hT : tok T) {g : Nat} (hg : g < 2 ^ tn T) : tok (Tg T g) := ⟨hT.1, hg, hT.2.2.1, hT.2.2.2⟩
theorem tok_d {T : Tw} (hT : tok T) {d : Nat} (hd : d < 2 ^ 31) : tok (Td T d) := ⟨hT.1, hT.2.1, hd, hT.2.2.2⟩
theorem tok_wo {T : Tw} (hT : tok T) {i v : Nat} : tok (zwo T i v) := by
  unfold zwo
  split
  · exact tok_t (tok_o (tok_gg hT (zp_clr_lt hT.2.1)) (by omega)) (by omega)
  · exact tok_t hT (by omega)
theorem zp_pls : ∀ t, t < 20 → ∀ n, n < 21 → (if (0 : Int32) < nI t + nI n then nI t + nI n else 0) = nI (t + n) := by decide +kernel
theorem zp_stir {N a i n : Nat} {μ : ZM} {T : Tw} (h : CT μ a T) (hT : tok T) (hi : i < tn T) (hn : n ≤ 20) : ∃ μ', f_X3_worsen N a (nI i) (nI n) μ = some μ' ∧ CT μ' a (zwo T i (tt T i + n)) ∧ zp_Fr a μ μ' := by
  have b := hT.2.2.2 i hi
  exact zp_worsen h hT.1 (tok_g hT) hi (by omega) (by omega) (zp_pls (tt T i) (by omega) n (by omega))
theorem zq_stir {N r i n : Nat} {ν : ZM} {T : Tw} (h : RT ν r 0 T) (hT : tok T) (hi : i < tn T) (hn : n ≤ 20) : ∃ ν', f_X5_stirOn N r (nI i) (nI n) ν = some ν' ∧ RT ν' r 0 (zwo T i (tt T i + n)) ∧ zq_Fr r ν ν' := by
  have h7 := hT.1
  obtain ⟨b1, b2, b3, b4⟩ := hT.2.2.2 i hi
  have a4 := (zq_at h hi).2.2.2
  unfold f_X5_stirOn
  rw [show (25 : Int32) = nI 25 from rfl, nI_add]
  simp only [zp_o (show 25 + i < 32 by omega) (show 32 < 2 ^ 31 by omega), nI_clamp (show 25 + i < 2 ^ 31 by omega), Bool.false_eq_true, if_false]
  rw [a4, nI_add, zp_ss]
  have c1 := h.t h7 (show i < 7 by omega) (tt T i + n)
  unfold zwo
  by_cases q : tt T i + n ≤ 19
  · rw [if_pos (show nI (tt T i + n) ≤ (19 : Int32) from nI_le (b := 19) q (by omega)), if_neg (by omega)]
    exact ⟨_, rfl, c1, zq_Fr.si⟩
  · rw [if_neg (show ¬ nI (tt T i + n) ≤ (19 : Int32) from nI_ge (a := 19) (by omega) (by omega)), if_pos (by omega)]
    have c2 := c1.t h7 (show i < 7 by omega) 19
    have e : (zk_si (zk_si ν r (25 + i) (nI (tt T i + n))) r (25 + i) (nI 19)).1 r 2 = nI (2 ^ tn T - 1 - tg T) := c2.2.2.1
    rw [show (19 : Int32) = nI 19 from rfl, e, zp_ins_e _ (zq_cmp_lt h7) i (by omega), zq_ins (tn T) (by omega) (tg T) hT.2.1 i hi]
    refine ⟨_, rfl, (c2.g (zp_clr (tg T) i)).eq ⟨rfl, rfl, rfl, rfl, fun j hj => ⟨rfl, rfl, ?_, ?_⟩⟩, (zq_Fr.si.tr zq_Fr.si).tr zq_Fr.si⟩
    · show to_ T j = upN (to_ T) i (min (to_ T i) 99) j
      by_cases e : j = i
      · subst e; rw [upN_s, Nat.min_eq_left (by omega)]
      · rw [upN_n e]
    · show upN (upN (tt T) i (tt T i + n)) i 19 j = upN (tt T) i (min (tt T i + n) 19) j
      by_cases e : j = i
      · subst e; rw [upN_s, upN_s, Nat.min_eq_right (by omega)]
      · rw [upN_n e, upN_n e, upN_n e]
abbrev zanew (T : Tw) (i : Nat) : Tw := Ttm (Tol (Twd (Tg T (zp_ins (tg T) i)) i 0) i 20) i 0
theorem zp_ins_lt2 : ∀ n, n < 8 → ∀ g, g < 2 ^ n → ∀ i, i < n → zp_ins g i < 2 ^ n := by decide +kernel
theorem tok_anew {T : Tw} (hT : tok T) {i : Nat} (hi : i < tn T) : tok (zanew T i) := by
  have h7 := hT.1
  exact tok_t (tok_o (tok_w (tok_gg hT (zp_ins_lt2 (tn T) (by omega) _ hT.2.1 i hi)) (by omega)) (by omega)) (by omega)
theorem zp_anew {N a i : Nat} {μ : ZM} {T : Tw} (h : CT μ a T) (hT : tok T) (hi : i < tn T) : ∃ μ', f_X3_wedAnew N a (nI i) μ = some μ' ∧ CT μ' a (zanew T i) ∧ zp_Fr a μ μ' := by
  have h7 := hT.1
  unfold f_X3_wedAnew
  simp only [zp_o (show i < 7 by omega) (show 7 < 2 ^ 31 by omega), nI_clamp (show i < 2 ^ 31 by omega), Bool.false_eq_true, if_false]
  rw [h.2.1, zp_ins_e _ (tok_g hT) i (by omega), show (20 : Int32) = nI 20 from rfl, show (0 : Int32) = nI 0 from rfl]
  exact ⟨_, rfl, (((h.g _).w i 0).o i 20).t i 0, ((zp_Fr.si (by omega) (by omega)).tr (zp_Fr.si (by omega) (by omega))).tr ((zp_Fr.si (by omega) (by omega)).tr (zp_Fr.si (by omega) (by omega)))⟩
theorem zq_anew {N r i : Nat} {ν : ZM} {T : Tw} (h : RT ν r 0 T) (hT : tok T) (hi : i < tn T) : ∃ ν', f_X5_wedOn N r (nI i) ν = some ν' ∧ RT ν' r 0 (zanew T i) ∧ zq_Fr r ν ν' := by
  have h7 := hT.1
  have e : ν.1 r 2 = nI (2 ^ tn T - 1 - tg T) := h.2.2.1
  unfold f_X5_wedOn
  rw [show (25 : Int32) = nI 25 from rfl, show (11 : Int32) = nI 11 from rfl, show (18 : Int32) = nI 18 from rfl, nI_add, nI_add, nI_add]
  simp only [zp_o (show 25 + i < 32 by omega) (show 32 < 2 ^ 31 by omega), zp_o (show 11 + i < 32 by omega) (show 32 < 2 ^ 31 by omega), zp_o (show 18 + i < 32 by omega) (show 32 < 2 ^ 31 by omega), nI_clamp (show 25 + i < 2 ^ 31 by omega), nI_clamp (show 11 + i < 2 ^ 31 by omega), nI_clamp (show 18 + i < 2 ^ 31 by omega), Bool.false_eq_true, if_false]
  rw [e, zp_clr_e _ (zq_cmp_lt h7) i (by omega), zq_clr (tn T) (by omega) (tg T) hT.2.1 i hi, show (20 : Int32) = nI 20 from rfl, show (0 : Int32) = nI 0 from rfl]
  exact ⟨_, rfl, (((h.g (zp_ins (tg T) i)).w h7 (show i < 7 by omega) 0).o h7 (show i < 7 by omega) 20).t h7 (show i < 7 by omega) 0, (zq_Fr.si.tr zq_Fr.si).tr (zq_Fr.si.tr zq_Fr.si)⟩
-- what is tested
theorem zp_num (x : Int32) : x < 0 ∨ ∃ k : Nat, k < 2 ^ 31 ∧ x = nI k := by
  by_cases h : x < 0
  · exact Or.inl h
  · obtain ⟨j, hj, rfl⟩ := nI_of h
    exact Or.inr ⟨j, hj, rfl⟩
theorem zp_in {N a b : Nat} {x : Int32} (hb : b < 2 ^ 31) (hab : a ≤ b) : (∃ k : Nat, a ≤ k ∧ k ≤ b ∧ x = nI k ∧ (∀ μ, f_X4_within N x (nI a) (nI b) μ = some (1, μ)) ∧ (∀ ν, f_X5_in N x (nI a) (nI b) ν = some (1, ν))) ∨ ((∀ μ, f_X4_within N x (nI a) (nI b) μ = some (0, μ)) ∧ (∀ ν, f_X5_in N x (nI a) (nI b) ν = some (0, ν))) := by
  unfold f_X4_within f_X5_in
  rcases zp_num x with h | ⟨k, hk, rfl⟩
  · have h2 : x < nI a := by
      rw [Int32.lt_iff_toInt_lt] at h ⊢
      rw [nI_toInt (by omega)]
      have : (0 : Int32).toInt = 0 := by decide
      omega
    exact Or.inr ⟨fun μ => by rw [if_pos h2]; rfl, fun μ => by rw [if_pos h2]; rfl⟩
  · by_cases h1 : k < a
    · exact Or.inr ⟨fun μ => by rw [if_pos (nI_lt h1 (by omega))]; rfl, fun μ => by rw [if_pos (nI_lt h1 (by omega))]; rfl⟩
    · by_cases h2 : b < k
      · exact Or.inr ⟨fun μ => by rw [if_neg (nI_nlt (by omega) (by omega)), if_pos (nI_lt h2 (by omega))]; rfl, fun μ => by rw [if_neg (nI_nlt (by omega) (by omega)), if_pos (nI_lt h2 (by omega))]; rfl⟩
      · exact Or.inl ⟨k, by omega, by omega, rfl, fun μ => by rw [if_neg (nI_nlt (by omega) (by omega)), if_neg (nI_nlt (by omega) (by omega))]; rfl, fun μ => by rw [if_neg (nI_nlt (by omega) (by omega)), if_neg (nI_nlt (by omega) (by omega))]; rfl⟩
