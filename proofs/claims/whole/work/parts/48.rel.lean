-- the relation of the two objects
theorem zp_couple {N : Nat} {x : Int32} {T : Tw} (hT : tok T) : (∃ k : Nat, k < tn T ∧ x = nI k ∧ (∀ μ, CT μ 1 T → f_X4_isCouple N 0 x μ = some (1, μ)) ∧ (∀ ν, RT ν 1 0 T → f_X5_isCouple N 0 x ν = some (1, ν))) ∨ ((∀ μ, CT μ 1 T → f_X4_isCouple N 0 x μ = some (0, μ)) ∧ (∀ ν, RT ν 1 0 T → f_X5_isCouple N 0 x ν = some (0, ν))) := by
  have h7 := hT.1
  have e2 : ∀ n, n < 8 → nI n - 1 = if n = 0 then -1 else nI (n - 1) := by decide +kernel
  have key : ∀ ν, RT ν 1 0 T → ∀ b : Int32, (b = 0 ∨ b = 1) → f_X5_in N x 0 (nI (tn T) - 1) ν = some (b, ν) → f_X5_isCouple N 0 x ν = some (b, ν) := by
    intro ν h b hb hi
    have h1 : ν.1 1 0 = nI (tn T) := h.1
    unfold f_X5_isCouple
    rw [Nat.zero_add, h1, hi]
    show zk_zr b ν = _
    unfold zk_zr
    rw [if_pos hb]
  rcases zp_num x with h | ⟨k, hk, rfl⟩
  · refine Or.inr ⟨fun μ hμ => ?_, fun ν hν => key ν hν 0 (Or.inl rfl) ?_⟩
    · unfold f_X4_isCouple
      rw [if_pos h]; rfl
    · unfold f_X5_in
      rw [if_pos h]; rfl
  · have n0 : ¬ nI k < 0 := nI_pos hk
    by_cases hc : k < tn T
    · refine Or.inl ⟨k, hc, rfl, fun μ hμ => ?_, fun ν hν => key ν hν 1 (Or.inr rfl) ?_⟩
      · have h1 : μ.1 1 4 = nI (tn T) := hμ.1
        unfold f_X4_isCouple
        rw [if_neg n0, Nat.zero_add, h1, if_neg (nI_ge hc (by omega))]; rfl
      · unfold f_X5_in
        rw [if_neg n0, e2 (tn T) (by omega), if_neg (show ¬ tn T = 0 by omega), if_neg (nI_nlt (by omega) (by omega))]; rfl
    · refine Or.inr ⟨fun μ hμ => ?_, fun ν hν => key ν hν 0 (Or.inl rfl) ?_⟩
      · have h1 : μ.1 1 4 = nI (tn T) := hμ.1
        unfold f_X4_isCouple
        rw [if_neg n0, Nat.zero_add, h1, if_pos (nI_le (by omega) (by omega))]; rfl
      · unfold f_X5_in
        rw [if_neg n0, e2 (tn T) (by omega)]
        by_cases h0 : tn T = 0
        · rw [if_pos h0, if_pos (show (-1 : Int32) < nI k by rw [Int32.lt_iff_toInt_lt, nI_toInt hk]; have : (-1 : Int32).toInt = -1 := by decide
                                                             omega)]; rfl
        · rw [if_neg h0, if_pos (nI_lt (by omega) (by omega))]; rfl
def zr_now (T : Tw) (μ ν : ZM) : Prop := CT μ 1 T ∧ RT ν 1 0 T ∧ tok T ∧ ty T ≤ 9999
def zr_slot (nx sz i : Nat) : Nat := (nx + 8 - sz + i) % 8
def zr_past (p r s : Nat) (μ ν : ZM) : Prop := ∃ (nx sz : Nat) (P : Nat → Tw), nx < 8 ∧ sz ≤ 8 ∧ μ.1 p 1 = nI nx ∧ μ.1 p 2 = nI sz ∧ ν.1 0 s = nI sz ∧ ∀ i, i < sz → CT μ (p + 2 + 5 * zr_slot nx sz i) (P i) ∧ RT ν r (32 * i) (P i) ∧ tok (P i) ∧ ty (P i) ≤ 9999
def zr_kept (μ ν : ZM) : Prop := (μ.1 0 7 = 0 ∧ ν.1 0 7 = 0) ∨ (μ.1 0 7 = 1 ∧ ν.1 0 7 = 1 ∧ (∃ T, CT μ 48 T ∧ RT ν 4 0 T ∧ tok T ∧ ty T ≤ 9999) ∧ zr_past 53 5 6 μ ν)
def zr_tape (μ ν : ZM) : Prop := ∃ (tz : Nat) (L : Nat → Nat), tz ≤ 80 ∧ μ.1 95 1 = nI tz ∧ ν.1 0 10 = nI tz ∧ ∀ i, i < tz → μ.1 96 i = nI (L i) ∧ ν.1 7 i = nI (L i) ∧ 32 ≤ L i ∧ L i ≤ 126
def zr_sheet (s : Nat) (μ ν : ZM) : Prop := ∃ l w : Nat, l ≤ 4 ∧ w ≤ 24 ∧ μ.1 (103 + 2 * s) 1 = nI l - 1 ∧ μ.1 (103 + 2 * s) 2 = nI w ∧ ν.1 8 s = nI l ∧ ν.1 9 s = nI w ∧ ∀ i, i < 24 → μ.2 (104 + 2 * s) i = ν.2 10 (24 * s + i)
def zr_rel (μ ν : ZM) : Prop := (∃ T, zr_now T μ ν) ∧ zr_past 6 3 3 μ ν ∧ zr_kept μ ν ∧ zr_tape μ ν ∧ ∀ s, s < 4 → zr_sheet s μ ν
theorem zr_slot_lt (nx sz i : Nat) : zr_slot nx sz i < 8 := Nat.mod_lt _ (by decide)
theorem CT.fr' {μ μ' : ZM} {a : Nat} {T : Tw} (h : CT μ a T) (e : ∀ k, a ≤ k → k ≤ a + 4 → μ'.1 k = μ.1 k) : CT μ' a T := by
  unfold CT
  rw [e a (by omega) (by omega), e (a + 1) (by omega) (by omega), e (a + 2) (by omega) (by omega), e (a + 3) (by omega) (by omega), e (a + 4) (by omega) (by omega)]
  exact h
theorem zr_past.fr {p r s : Nat} {μ ν μ' ν' : ZM} (h : zr_past p r s μ ν) (e1 : ∀ k, p ≤ k → k ≤ p + 41 → μ'.1 k = μ.1 k) (e2 : ν'.1 r = ν.1 r) (e3 : ν'.1 0 s = ν.1 0 s) : zr_past p r s μ' ν' := by
  obtain ⟨nx, sz, P, h1, h2, h3, h4, h5, h6⟩ := h
  refine ⟨nx, sz, P, h1, h2, by rw [e1 p (by omega) (by omega)]; exact h3, by rw [e1 p (by omega) (by omega)]; exact h4, by rw [e3]; exact h5, fun i hi => ?_⟩
  obtain ⟨q1, q2, q3⟩ := h6 i hi
  have := zr_slot_lt nx sz i
  exact ⟨q1.fr' (fun k k1 k2 => e1 k (by omega) (by omega)), q2.fr e2, q3⟩
theorem zr_kept.fr {μ ν μ' ν' : ZM} (h : zr_kept μ ν) (e0 : μ'.1 0 7 = μ.1 0 7) (e1 : ∀ k, 48 ≤ k → k ≤ 94 → μ'.1 k = μ.1 k) (e2 : ν'.1 4 = ν.1 4) (e3 : ν'.1 5 = ν.1 5) (e4 : ν'.1 0 6 = ν.1 0 6) (e5 : ν'.1 0 7 = ν.1 0 7) : zr_kept μ' ν' := by
  unfold zr_kept
  rw [e0, e5]
  rcases h with h | ⟨h1, h2, ⟨T, h3, h4, h5⟩, h6⟩
  · exact Or.inl h
  · exact Or.inr ⟨h1, h2, ⟨T, h3.fr' (fun k k1 k2 => e1 k (by omega) (by omega)), h4.fr e2, h5⟩, h6.fr (fun k k1 k2 => e1 k (by omega) (by omega)) e3 e4⟩
theorem zr_tape.fr {μ ν μ' ν' : ZM} (h : zr_tape μ ν) (e0 : μ'.1 95 1 = μ.1 95 1) (e1 : μ'.1 96 = μ.1 96) (e2 : ν'.1 0 10 = ν.1 0 10) (e3 : ν'.1 7 = ν.1 7) : zr_tape μ' ν' := by
  unfold zr_tape
  rw [e0, e1, e2, e3]
  exact h
theorem zr_sheet.fr {s : Nat} {μ ν μ' ν' : ZM} (h : zr_sheet s μ ν) (e0 : μ'.1 (103 + 2 * s) = μ.1 (103 + 2 * s)) (e1 : μ'.2 (104 + 2 * s) = μ.2 (104 + 2 * s)) (e2 : ν'.1 8 = ν.1 8) (e3 : ν'.1 9 = ν.1 9) (e4 : ν'.2 10 = ν.2 10) : zr_sheet s μ' ν' := by
  unfold zr_sheet
  rw [e0, e1, e2, e3, e4]
  exact h
/-- nothing but the trial has changed -/
theorem zr_ask {μ ν μ' ν' : ZM} (h : zr_rel μ ν) (f : zp_Fr 98 μ μ') (g : zq_Fr 2 ν ν') : zr_rel μ' ν' := by
  obtain ⟨⟨T, h1, h2, h3⟩, hp, hk, ht, hs⟩ := h
  have F : ∀ k, k < 98 → μ'.1 k = μ.1 k := fun k hk => f.1 k (by omega)
  have G : ∀ k, k ≠ 2 → k ≠ 6 → ν'.1 k = ν.1 k := g.1
  refine ⟨⟨T, h1.fr' (fun k k1 k2 => F k (by omega)), h2.fr (G 1 (by decide) (by decide)), h3⟩, hp.fr (fun k k1 k2 => F k (by omega)) (G 3 (by decide) (by decide)) (by rw [G 0 (by decide) (by decide)]), hk.fr (by rw [F 0 (by omega)]) (fun k k1 k2 => F k (by omega)) (G 4 (by decide) (by decide)) (G 5 (by decide) (by decide)) (by rw [G 0 (by decide) (by decide)]) (by rw [G 0 (by decide) (by decide)]), ht.fr (by rw [F 95 (by omega)]) (F 96 (by omega)) (by rw [G 0 (by decide) (by decide)]) (G 7 (by decide) (by decide)), fun s hs4 => (hs s hs4).fr (f.1 _ (by omega)) (by rw [f.2]) (G 8 (by decide) (by decide)) (G 9 (by decide) (by decide)) (by rw [g.2])⟩
/-- the town that is now, and its past, have changed; nothing else -/
theorem zr_do {μ ν μ' ν' : ZM} (h : zr_rel μ ν) (hn : ∃ T, zr_now T μ' ν') (hp : zr_past 6 3 3 μ' ν') (f1 : ∀ k, (k = 0 ∨ 47 < k) → (k < 98 ∨ 102 < k) → μ'.1 k = μ.1 k) (f2 : μ'.2 = μ.2) (g1 : ∀ k, k ≠ 0 → k ≠ 1 → k ≠ 2 → k ≠ 3 → k ≠ 6 → ν'.1 k = ν.1 k) (g0 : ∀ j, j ≠ 3 → ν'.1 0 j = ν.1 0 j) (g2 : ν'.2 = ν.2) : zr_rel μ' ν' := by
  obtain ⟨_, _, hk, ht, hs⟩ := h
  have G : ∀ k, 4 ≤ k → k ≠ 6 → ν'.1 k = ν.1 k := fun k h1 h2 => g1 k (by omega) (by omega) (by omega) (by omega) h2
  refine ⟨hn, hp, hk.fr (by rw [f1 0 (by omega) (by omega)]) (fun k k1 k2 => f1 k (by omega) (by omega)) (G 4 (by omega) (by omega)) (G 5 (by omega) (by omega)) (g0 6 (by decide)) (g0 7 (by decide)), ht.fr (by rw [f1 95 (by omega) (by omega)]) (f1 96 (by omega) (by omega)) (g0 10 (by decide)) (G 7 (by omega) (by omega)), fun s hs4 => (hs s hs4).fr (f1 _ (by omega) (by omega)) (by rw [f2]) (G 8 (by omega) (by omega)) (G 9 (by omega) (by omega)) (by rw [g2])⟩
