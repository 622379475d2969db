-- the two readers, in step
abbrev ZZ : Type := ZM × ZM × Nat × (Nat → Nat)
abbrev zzc (z : ZZ) : ZM := z.1
abbrev zzr (z : ZZ) : ZM := z.2.1
abbrev zzn (z : ZZ) : Nat := z.2.2.1
abbrev zzl (z : ZZ) : Nat → Nat := z.2.2.2
def zbase (z : ZZ) : Prop := zzn z ≤ 80 ∧ (zzc z).1 95 1 = nI (zzn z) ∧ (zzr z).1 0 10 = nI (zzn z) ∧ ∀ i, i < zzn z → (zzc z).1 96 i = nI (zzl z i) ∧ (zzr z).1 7 i = nI (zzl z i) ∧ 32 ≤ zzl z i ∧ zzl z i ≤ 126
def zF (z : ZZ) (μ : ZM) : Prop := (∀ k, k ≠ 95 → (k < 98 ∨ 102 < k) → μ.1 k = (zzc z).1 k) ∧ μ.1 95 1 = (zzc z).1 95 1 ∧ μ.2 = (zzc z).2
def zG (z : ZZ) (ν : ZM) : Prop := (∀ k, k ≠ 0 → k ≠ 2 → k ≠ 6 → ν.1 k = (zzr z).1 k) ∧ (∀ j, j < 11 → ν.1 0 j = (zzr z).1 0 j) ∧ ν.2 = (zzr z).2
theorem zF.n {z : ZZ} {μ : ZM} (h : zF z μ) (b : zbase z) : μ.1 95 1 = nI (zzn z) := h.2.1.trans b.2.1
theorem zG.n {z : ZZ} {ν : ZM} (h : zG z ν) (b : zbase z) : ν.1 0 10 = nI (zzn z) := (h.2.1 10 (by decide)).trans b.2.2.1
theorem zF.l {z : ZZ} {μ : ZM} (h : zF z μ) (b : zbase z) {i : Nat} (hi : i < zzn z) : μ.1 96 i = nI (zzl z i) := by
  rw [h.1 96 (by decide) (by omega)]; exact (b.2.2.2 i hi).1
theorem zG.l {z : ZZ} {ν : ZM} (h : zG z ν) (b : zbase z) {i : Nat} (hi : i < zzn z) : ν.1 7 i = nI (zzl z i) := by
  rw [h.1 7 (by decide) (by decide) (by decide)]; exact (b.2.2.2 i hi).2.1
theorem zF.s {z : ZZ} {μ : ZM} (h : zF z μ) {j : Nat} (hj : j ≠ 1) {v : Int32} : zF z (zk_si μ 95 j v) := by
  refine ⟨fun k k1 k2 => ?_, ?_, h.2.2⟩
  · rw [← h.1 k k1 k2]; simp [zk_si, k1]
  · rw [zp_sk (by omega)]; exact h.2.1
theorem zG.s {z : ZZ} {ν : ZM} (h : zG z ν) {j : Nat} (hj : 11 ≤ j) {v : Int32} : zG z (zk_si ν 0 j v) := by
  refine ⟨fun k k0 k2 k6 => ?_, fun i hi => ?_, h.2.2⟩
  · rw [← h.1 k k0 k2 k6]; simp [zk_si, k0]
  · rw [zp_sk (by omega)]; exact h.2.1 i hi
theorem zF.fr {z : ZZ} {μ μ' : ZM} (h : zF z μ) (f : zp_Fr 98 μ μ') : zF z μ' :=
  ⟨fun k k1 k2 => by rw [f.1 k (by omega)]; exact h.1 k k1 k2, by rw [f.1 95 (by omega)]; exact h.2.1, f.2.trans h.2.2⟩
theorem zG.fr {z : ZZ} {ν ν' : ZM} (h : zG z ν) (f : zq_Fr 2 ν ν') : zG z ν' :=
  ⟨fun k k0 k2 k6 => by rw [f.1 k k2 k6]; exact h.1 k k0 k2 k6, fun j hj => by rw [f.1 0 (by decide) (by decide)]; exact h.2.1 j hj, f.2.trans h.2.2⟩
/-- both at p, nothing wrong yet -/
def zt (z : ZZ) (d p : Nat) (T : Tw) (μ ν : ZM) : Prop := zF z μ ∧ zG z ν ∧ μ.1 95 2 = nI p ∧ ν.1 0 11 = nI p ∧ p ≤ zzn z ∧ ν.1 0 12 = 0 ∧ CT μ 98 T ∧ RT ν 2 0 (Td T d) ∧ tok (Td T 0)
/-- both have failed at q -/
def zfl (z : ZZ) (q : Nat) (μ ν : ZM) : Prop := zF z μ ∧ zG z ν ∧ μ.1 95 3 = nI q ∧ ν.1 0 12 = 1 ∧ ν.1 0 13 = nI q
/-- the one stands before a third digit, the other has failed there -/
def zst (z : ZZ) (q : Nat) (T : Tw) (μ ν : ZM) : Prop := zF z μ ∧ zG z ν ∧ μ.1 95 2 = nI q ∧ q < zzn z ∧ 48 ≤ zzl z q ∧ zzl z q ≤ 57 ∧ CT μ 98 T ∧ tok (Td T 0) ∧ ν.1 0 12 = 1 ∧ ν.1 0 13 = nI q
def zlt (z : ZZ) (p : Nat) : Int32 := if p < zzn z then nI (zzl z p) else -1
def zlq (z : ZZ) (p : Nat) : Int32 := if p < zzn z then nI (zzl z p) else -4
theorem zp_let {N p : Nat} {z : ZZ} {μ : ZM} (b : zbase z) (h : zF z μ) (hp : p < 2 ^ 31) : f_X2_letterAt N 95 (nI p) μ = some (zlt z p, μ) := by
  have hz := b.1
  unfold f_X2_letterAt zlt
  rw [if_neg (nI_pos hp), h.n b]
  by_cases e : p < zzn z
  · rw [if_neg (nI_ge e (by omega)), if_neg (show ¬ (80 : Int32) ≤ nI p from nI_ge (b := 80) (by omega) (by omega)), if_pos e, zp_o (show p < 80 by omega) (by omega), nI_clamp (by omega), h.l b e]
    rfl
  · rw [if_pos (nI_le (by omega) (by omega)), if_neg e]
theorem zq_here {N p : Nat} {z : ZZ} {ν : ZM} (b : zbase z) (h : zG z ν) (e : ν.1 0 11 = nI p) (hp : p ≤ zzn z) : f_X5_here_J38 N 0 ν = some (zlq z p, ν) := by
  have hz := b.1
  unfold f_X5_here_J38 zlq
  rw [h.n b, e]
  by_cases hl : p < zzn z
  · rw [if_neg (nI_ge hl (by omega)), if_pos hl, zp_o (show p < 80 by omega) (by omega), nI_clamp (by omega), Nat.zero_add, h.l b hl]
    rfl
  · rw [if_pos (nI_le (by omega) (by omega)), if_neg hl]
theorem zs_skip_L {N d : Nat} {z : ZZ} {T : Tw} (b : zbase z) : ∀ (f p : Nat) (μ ν : ZM), zzn z < p + f → zt z d p T μ ν → ∃ p' μ' ν', f_X2_skipBlanks_L0 N f 95 μ = some μ' ∧ f_X5_here_L0 N f 0 ν = some (zlq z p', ν') ∧ zt z d p' T μ' ν' ∧ (p' < zzn z → zzl z p' ≠ 32)
  | 0, p, μ, ν, hf, h => absurd hf (by have := h.2.2.2.2.1; omega)
  | f + 1, p, μ, ν, hf, h => by
    obtain ⟨h1, h2, h3, h4, h5, h6, h7, h8, h9⟩ := id h
    have hz := b.1
    unfold f_X2_skipBlanks_L0 f_X5_here_L0
    rw [h1.n b, h2.n b, h3, h4]
    by_cases e : p < zzn z
    · have l1 : (nI (zzn z) ≤ nI p) = False := eq_false (nI_ge e (by omega))
      have l2 : zlt z p = nI (zzl z p) := if_pos e
      obtain ⟨_, _, b1, b2⟩ := b.2.2.2 p e
      simp only [l1, if_false, zp_let b h1 (show p < 2 ^ 31 by omega), l2, Option.bind_some, zp_o (show p < 80 by omega) (show 80 < 2 ^ 31 by omega), nI_clamp (show p < 2 ^ 31 by omega), Bool.false_eq_true, Nat.zero_add, h2.l b e, h3, nI_1, zq_here b h2 h4 h5]
      by_cases e2 : zzl z p = 32
      · have l3 : (nI (zzl z p) = 32) = True := eq_true (by rw [e2]; rfl)
        simp only [l3, not_true_eq_false, if_false]
        refine zs_skip_L b f (p + 1) _ _ (by omega) ⟨h1.s (by decide), h2.s (by decide), zp_ss, zp_ss, by omega, by rw [zp_sk (by omega)]; exact h6, h7.fr' (fun k k1 k2 => by simp [zk_si, show k ≠ 95 by omega]), h8.fr (by simp [zk_si]), h9⟩
      · have l3 : (nI (zzl z p) = 32) = False := eq_false (fun q => e2 ((nI_eq (b := 32) (by omega) (by omega)).mp q))
        simp only [l3, not_false_eq_true, if_true]
        exact ⟨p, μ, ν, rfl, rfl, h, fun _ => e2⟩
    · have l1 : (nI (zzn z) ≤ nI p) = True := eq_true (nI_le (by omega) (by omega))
      simp only [l1, if_true, zq_here b h2 h4 h5]
      exact ⟨p, μ, ν, rfl, rfl, h, fun q => absurd q e⟩
theorem zs_skip {N d p : Nat} {z : ZZ} {T : Tw} {μ ν : ZM} (hN : 300 ≤ N) (b : zbase z) (h : zt z d p T μ ν) : ∃ p' μ' ν', f_X2_skipBlanks N 95 μ = some μ' ∧ f_X5_here N 0 ν = some (zlq z p', ν') ∧ zt z d p' T μ' ν' ∧ (p' < zzn z → zzl z p' ≠ 32) :=
  zs_skip_L b N p μ ν (by have := b.1; omega) h
theorem zp_skid {N p : Nat} {z : ZZ} {μ : ZM} (hN : 300 ≤ N) (b : zbase z) (h : zF z μ) (e : μ.1 95 2 = nI p) (hp : p ≤ zzn z) (h32 : p < zzn z → zzl z p ≠ 32) : f_X2_skipBlanks N 95 μ = some μ := by
  obtain ⟨M, rfl⟩ : ∃ M, N = M + 1 := ⟨N - 1, by omega⟩
  have hz := b.1
  unfold f_X2_skipBlanks f_X2_skipBlanks_L0
  rw [h.n b, e]
  by_cases hl : p < zzn z
  · have l1 : (nI (zzn z) ≤ nI p) = False := eq_false (nI_ge hl (by omega))
    have l2 : zlt z p = nI (zzl z p) := if_pos hl
    obtain ⟨_, _, b1, b2⟩ := b.2.2.2 p hl
    have l3 : (nI (zzl z p) = 32) = False := eq_false (fun q => h32 hl ((nI_eq (b := 32) (by omega) (by omega)).mp q))
    simp only [l1, if_false, zp_let b h (show p < 2 ^ 31 by omega), l2, Option.bind_some, l3, not_false_eq_true, if_true]
  · rw [if_pos (nI_le (by omega) (by omega))]
theorem zq_skid {N p : Nat} {z : ZZ} {ν : ZM} (hN : 300 ≤ N) (b : zbase z) (h : zG z ν) (e : ν.1 0 11 = nI p) (hp : p ≤ zzn z) (h32 : p < zzn z → zzl z p ≠ 32) : f_X5_here N 0 ν = some (zlq z p, ν) := by
  obtain ⟨M, rfl⟩ : ∃ M, N = M + 1 := ⟨N - 1, by omega⟩
  have hz := b.1
  unfold f_X5_here f_X5_here_L0
  rw [h.n b, e]
  by_cases hl : p < zzn z
  · have l1 : (nI (zzn z) ≤ nI p) = False := eq_false (nI_ge hl (by omega))
    obtain ⟨_, _, b1, b2⟩ := b.2.2.2 p hl
    have l3 : (nI (zzl z p) = 32) = False := eq_false (fun q => h32 hl ((nI_eq (b := 32) (by omega) (by omega)).mp q))
    simp only [l1, if_false, zp_o (show p < 80 by omega) (show 80 < 2 ^ 31 by omega), nI_clamp (show p < 2 ^ 31 by omega), Bool.false_eq_true, Nat.zero_add, h.l b hl, l3, not_false_eq_true, if_true, zq_here b h e hp]
  · rw [if_pos (nI_le (by omega) (by omega)), zq_here b h e hp]
theorem zt.to {z : ZZ} {d p p' : Nat} {T : Tw} {μ ν : ZM} (h : zt z d p T μ ν) (hp : p' ≤ zzn z) : zt z d p' T (zk_si μ 95 2 (nI p')) (zk_si ν 0 11 (nI p')) := by
  obtain ⟨h1, h2, h3, h4, h5, h6, h7, h8, h9⟩ := h
  exact ⟨h1.s (by decide), h2.s (by decide), zp_ss, zp_ss, hp, by rw [zp_sk (by omega)]; exact h6, h7.fr' (fun k k1 k2 => by simp [zk_si, show k ≠ 95 by omega]), h8.fr (by simp [zk_si]), h9⟩
theorem zt.at {z : ZZ} {d p : Nat} {T : Tw} {μ ν : ZM} (h : zt z d p T μ ν) : zt z d p T μ (zk_si ν 0 11 (nI p)) := by
  obtain ⟨h1, h2, h3, h4, h5, h6, h7, h8, h9⟩ := h
  exact ⟨h1, h2.s (by decide), h3, zp_ss, h5, by rw [zp_sk (by omega)]; exact h6, h7, h8.fr (by simp [zk_si]), h9⟩
theorem zs_takes {N d p c : Nat} {z : ZZ} {T : Tw} {μ ν : ZM} (hN : 300 ≤ N) (b : zbase z) (hc : c < 127) (h : zt z d p T μ ν) : ∃ (t : Bool) (p' : Nat) (μ' ν' : ZM), f_X2_takes N 95 (nI c) μ = some (if t = true then 1 else 0, μ') ∧ f_X5_takes N 0 (nI c) ν = some (if t = true then 1 else 0, ν') ∧ zt z d p' T μ' ν' ∧ (t = false → p' < zzn z → zzl z p' ≠ 32 ∧ zzl z p' ≠ c) := by
  obtain ⟨p1, μ1, ν1, f1, g1, h1, n1⟩ := zs_skip hN b h
  obtain ⟨a1, a2, a3, a4, a5, a6, a7, a8, a9⟩ := id h1
  have hz := b.1
  unfold f_X2_takes f_X5_takes f_X5_takes_J13
  simp only [f1, g1, Option.bind_some, a3, a4, zp_let b a1 (show p1 < 2 ^ 31 by omega), zt10, if_false, if_true, nI_1]
  by_cases e : p1 < zzn z ∧ zzl z p1 = c
  · have l1 : (zlt z p1 = nI c) = True := eq_true (by unfold zlt; rw [if_pos e.1, e.2])
    have l2 : (zlq z p1 = nI c) = True := eq_true (by unfold zlq; rw [if_pos e.1, e.2])
    simp only [l1, l2, if_true, not_true_eq_false, if_false]
    exact ⟨true, p1 + 1, _, _, rfl, rfl, h1.to (by omega), fun q => absurd q (by decide)⟩
  · have l1 : (zlt z p1 = nI c) = False := eq_false (fun q => by
      unfold zlt at q
      by_cases e1 : p1 < zzn z
      · rw [if_pos e1] at q
        have := (b.2.2.2 p1 e1).2.2.2
        exact e ⟨e1, (nI_eq (by omega) (by omega)).mp q⟩
      · rw [if_neg e1] at q
        exact nI_pos (show c < 2 ^ 31 by omega) (by rw [← q]; decide))
    have l2 : (zlq z p1 = nI c) = False := eq_false (fun q => by
      unfold zlq at q
      by_cases e1 : p1 < zzn z
      · rw [if_pos e1] at q
        have := (b.2.2.2 p1 e1).2.2.2
        exact e ⟨e1, (nI_eq (by omega) (by omega)).mp q⟩
      · rw [if_neg e1] at q
        exact nI_pos (show c < 2 ^ 31 by omega) (by rw [← q]; decide))
    have l3 : nI p1 + 0 = nI p1 := by rw [show (0 : Int32) = nI 0 from rfl, nI_add, Nat.add_zero]
    simp only [l1, l2, if_false, not_false_eq_true, if_true, l3]
    exact ⟨false, p1, μ1, zk_si ν1 0 11 (nI p1), rfl, rfl, h1.at, fun _ q => ⟨n1 q, fun w => e ⟨q, w⟩⟩⟩
/-- before a third digit nothing is taken -/
theorem zst.tk {N q c : Nat} {z : ZZ} {T : Tw} {μ ν : ZM} (hN : 300 ≤ N) (b : zbase z) (hc : c < 127) (hd : c < 48 ∨ 57 < c) (h : zst z q T μ ν) : f_X2_takes N 95 (nI c) μ = some (0, μ) := by
  obtain ⟨a1, a2, a3, a4, a5, a6, a7, a8⟩ := h
  have hz := b.1
  unfold f_X2_takes
  have l1 : (zlt z q = nI c) = False := eq_false (fun w => by
    unfold zlt at w
    rw [if_pos a4] at w
    have := (nI_eq (by omega) (by omega)).mp w
    omega)
  simp only [zp_skid hN b a1 a3 (by omega) (fun _ => by omega), Option.bind_some, a3, zp_let b a1 (show q < 2 ^ 31 by omega), l1, if_false]
  rfl
def zdg (z : ZZ) (p : Nat) : Bool := decide (p < zzn z ∧ 48 ≤ zzl z p ∧ zzl z p ≤ 57)
theorem zp_dg {N p : Nat} {z : ZZ} {μ : ZM} (b : zbase z) : f_X2_isDigit N (zlt z p) μ = some (if zdg z p = true then 1 else 0, μ) := by
  unfold f_X2_isDigit zlt zdg
  by_cases e : p < zzn z
  · obtain ⟨_, _, b1, b2⟩ := b.2.2.2 p e
    rw [if_pos e]
    by_cases e1 : zzl z p < 48
    · rw [if_pos (show nI (zzl z p) < 48 from nI_lt (b := 48) e1 (by omega)), if_neg (by simp only [decide_eq_true_eq]; omega)]; rfl
    · rw [if_neg (show ¬ nI (zzl z p) < 48 from nI_nlt (b := 48) (by omega) (by omega))]
      by_cases e2 : 57 < zzl z p
      · rw [if_pos (show (57 : Int32) < nI (zzl z p) from nI_lt (a := 57) e2 (by omega)), if_neg (by simp only [decide_eq_true_eq]; omega)]; rfl
      · rw [if_neg (show ¬ (57 : Int32) < nI (zzl z p) from nI_nlt (a := 57) (by omega) (by omega)), if_pos (by simp only [decide_eq_true_eq]; omega)]; rfl
  · rw [if_neg e, if_pos (show (-1 : Int32) < 48 by decide), if_neg (by simp only [decide_eq_true_eq]; omega)]; rfl
theorem zq_dg {N p : Nat} {z : ZZ} {ν : ZM} (b : zbase z) : f_X5_in N (zlq z p) 48 57 ν = some (if zdg z p = true then 1 else 0, ν) := by
  unfold f_X5_in zlq zdg
  by_cases e : p < zzn z
  · obtain ⟨_, _, b1, b2⟩ := b.2.2.2 p e
    rw [if_pos e]
    by_cases e1 : zzl z p < 48
    · rw [if_pos (show nI (zzl z p) < 48 from nI_lt (b := 48) e1 (by omega)), if_neg (by simp only [decide_eq_true_eq]; omega)]; rfl
    · rw [if_neg (show ¬ nI (zzl z p) < 48 from nI_nlt (b := 48) (by omega) (by omega))]
      by_cases e2 : 57 < zzl z p
      · rw [if_pos (show (57 : Int32) < nI (zzl z p) from nI_lt (a := 57) e2 (by omega)), if_neg (by simp only [decide_eq_true_eq]; omega)]; rfl
      · rw [if_neg (show ¬ (57 : Int32) < nI (zzl z p) from nI_nlt (a := 57) (by omega) (by omega)), if_pos (by simp only [decide_eq_true_eq]; omega)]; rfl
  · rw [if_neg e, if_pos (show (-4 : Int32) < 48 by decide), if_neg (by simp only [decide_eq_true_eq]; omega)]; rfl
theorem zq_wrong {N : Nat} {x : Int32} {ν : ZM} (h : ν.1 0 12 = 0) : f_X5_wrongAt N 0 x ν = some (zk_si (zk_si ν 0 13 x) 0 12 1) := by
  unfold f_X5_wrongAt
  simp only [h, if_true]
/-- what a number comes to -/
def zo3 (z : ZZ) (lo hi d : Nat) (T : Tw) (F G : Option (Int32 × ZM)) : Prop :=
  (∃ (v p : Nat) (μ ν : ZM), lo ≤ v ∧ v ≤ hi ∧ F = some (nI v, μ) ∧ G = some (nI v, ν) ∧ zt z d p T μ ν) ∨ (∃ (q : Nat) (x : Int32) (μ ν : ZM), F = some (-1, μ) ∧ G = some (x, ν) ∧ zfl z q μ ν) ∨ (∃ (v q : Nat) (x : Int32) (μ ν : ZM), lo ≤ v ∧ v ≤ hi ∧ F = some (nI v, μ) ∧ G = some (x, ν) ∧ zst z q T μ ν)
theorem zt.fl {z : ZZ} {d p q : Nat} {T : Tw} {μ ν : ZM} (h : zt z d p T μ ν) : zfl z q (zk_si μ 95 3 (nI q)) (zk_si (zk_si ν 0 13 (nI q)) 0 12 1) := by
  obtain ⟨h1, h2, _⟩ := h
  exact ⟨h1.s (by decide), (h2.s (by decide)).s (by decide), zp_ss, zp_ss, by rw [zp_sk (by omega), zp_ss]⟩
theorem zs_nfin {N lo hi d p p1 v : Nat} {z : ZZ} {T : Tw} {μ ν : ZM} (b : zbase z) (hh : hi ≤ 99) (hl : lo ≤ hi) (hv : v ≤ 200) (h : zt z d p T μ ν) : zo3 z lo hi d T (f_X2_readNumber_J96 N 95 (nI lo) (nI hi) (nI p1) (nI v) μ) (f_X5_number_J96 N 0 (nI lo) (nI hi) 1 (nI p1) (nI v) ν) := by
  obtain ⟨a1, a2, a3, a4, a5, a6, a7, a8, a9⟩ := id h
  have hz := b.1
  have w1 := zq_wrong (N := N) (x := nI p1) a6
  have w2 := zq_wrong (N := N) (x := nI p) a6
  unfold f_X2_readNumber_J96 f_X5_number_J96
  rw [if_neg (show ¬ (1 : Int32) = 0 by decide)]
  by_cases e1 : v < lo
  · have l1 : (nI v < nI lo) = True := eq_true (nI_lt e1 (by omega))
    have g1 : f_X5_in N (nI v) (nI lo) (nI hi) ν = some (0, ν) := by
      unfold f_X5_in
      rw [if_pos (nI_lt e1 (by omega))]; rfl
    simp only [l1, if_true, g1, Option.bind_some, not_true_eq_false, if_false, w1]
    exact Or.inr (Or.inl ⟨p1, _, _, _, rfl, rfl, h.fl⟩)
  · have l1 : (nI v < nI lo) = False := eq_false (nI_nlt (by omega) (by omega))
    by_cases e2 : v ≤ hi
    · have l2 : (nI v ≤ nI hi) = True := eq_true (nI_le e2 (by omega))
      have g1 : f_X5_in N (nI v) (nI lo) (nI hi) ν = some (1, ν) := by
        unfold f_X5_in
        rw [if_neg (nI_nlt (by omega) (by omega)), if_neg (nI_nlt (by omega) (by omega))]; rfl
      simp only [l1, l2, if_true, if_false, g1, Option.bind_some, zt10, not_false_eq_true, a2.n b, a4]
      by_cases e3 : p < zzn z
      · have l3 : (nI (zzn z) ≤ nI p) = False := eq_false (nI_ge e3 (by omega))
        have e4 : nI (zzl z p) = zlq z p := (if_pos e3).symm
        simp only [l3, if_false, zp_o (show p < 80 by omega) (show 80 < 2 ^ 31 by omega), nI_clamp (show p < 2 ^ 31 by omega), Bool.false_eq_true, Nat.zero_add, a2.l b e3, e4, zq_dg b, Option.bind_some]
        cases e5 : zdg z p with
        | false =>
          simp only [Bool.false_eq_true, if_false, if_true]
          exact Or.inl ⟨v, p, μ, ν, by omega, e2, rfl, rfl, h⟩
        | true =>
          simp only [if_true, zt10, if_false, a4, w2, Option.bind_some]
          have e5 := of_decide_eq_true e5
          exact Or.inr (Or.inr ⟨v, p, _, μ, _, by omega, e2, rfl, rfl, a1, (a2.s (by decide)).s (by decide), a3, e3, e5.2.1, e5.2.2, a7, a9, zp_ss, by rw [zp_sk (by omega), zp_ss]⟩)
      · have l3 : (nI (zzn z) ≤ nI p) = True := eq_true (nI_le (by omega) (by omega))
        simp only [l3, if_true]
        exact Or.inl ⟨v, p, μ, ν, by omega, e2, rfl, rfl, h⟩
    · have l2 : (nI v ≤ nI hi) = False := eq_false (nI_ge (by omega) (by omega))
      have g1 : f_X5_in N (nI v) (nI lo) (nI hi) ν = some (0, ν) := by
        unfold f_X5_in
        rw [if_neg (nI_nlt (by omega) (by omega)), if_pos (nI_lt (by omega) (by omega))]; rfl
      simp only [l1, l2, if_true, if_false, g1, Option.bind_some, not_true_eq_false, w1]
      exact Or.inr (Or.inl ⟨p1, _, _, _, rfl, rfl, h.fl⟩)
