-- town
theorem zp_end {N p : Nat} {z : ZZ} {μ μ2 : ZM} (b : zbase z) (f : f_X2_skipBlanks N 95 μ = some μ2) (a1 : zF z μ2) (a3 : μ2.1 95 2 = nI p) (hp : p ≤ zzn z) : f_X2_isAtEnd N 95 μ = some (if p < zzn z then 0 else 1, zk_si μ2 95 3 (nI p)) := by
  have hz := b.1
  have r1 : (zk_si μ2 95 3 (nI p)).1 95 2 = nI p := by rw [zp_sk (by omega)]; exact a3
  have r2 : (zk_si μ2 95 3 (nI p)).1 95 1 = nI (zzn z) := by rw [zp_sk (by omega)]; exact a1.n b
  unfold f_X2_isAtEnd
  simp only [f, Option.bind_some, a3, r1, r2]
  by_cases e : p < zzn z
  · rw [if_pos (nI_lt e (by omega)), if_pos e, zp_z0]
  · rw [if_neg (nI_nlt (by omega) (by omega)), if_neg e, zp_z1]
theorem zp_tk {N p c : Nat} {z : ZZ} {μ μ2 : ZM} (b : zbase z) (hc : c < 127) (f : f_X2_skipBlanks N 95 μ = some μ2) (a1 : zF z μ2) (a3 : μ2.1 95 2 = nI p) (hp : p ≤ zzn z) : f_X2_takes N 95 (nI c) μ = if p < zzn z ∧ zzl z p = c then some (1, zk_si μ2 95 2 (nI (p + 1))) else some (0, μ2) := by
  have hz := b.1
  unfold f_X2_takes
  simp only [f, Option.bind_some, a3, zp_let b a1 (show p < 2 ^ 31 by omega), nI_1, zp_z0, zp_z1]
  by_cases e : p < zzn z ∧ zzl z p = c
  · rw [if_pos e, if_pos (by unfold zlt; rw [if_pos e.1, e.2])]
  · rw [if_neg e, if_neg]
    intro q
    unfold zlt at q
    by_cases e1 : p < zzn z
    · rw [if_pos e1] at q
      have := (b.2.2.2 p e1).2.2.2
      exact e ⟨e1, (nI_eq (by omega) (by omega)).mp q⟩
    · rw [if_neg e1] at q
      exact nI_pos (show c < 2 ^ 31 by omega) (by rw [← q]; decide)
theorem zq_tk {N p c : Nat} {z : ZZ} {ν : ZM} (hN : 300 ≤ N) (b : zbase z) (hc : c < 127) (a1 : zG z ν) (a3 : ν.1 0 11 = nI p) (hp : p ≤ zzn z) (h32 : p < zzn z → zzl z p ≠ 32) : f_X5_takes N 0 (nI c) ν = if p < zzn z ∧ zzl z p = c then some (1, zk_si ν 0 11 (nI (p + 1))) else some (0, zk_si ν 0 11 (nI p)) := by
  have hz := b.1
  have l3 : nI p + 0 = nI p := by rw [show (0 : Int32) = nI 0 from rfl, nI_add, Nat.add_zero]
  unfold f_X5_takes f_X5_takes_J13
  simp only [zq_skid hN b a1 a3 hp h32, Option.bind_some, a3, zt10, if_false, if_true, nI_1, l3, zp_z0, zp_z1]
  by_cases e : p < zzn z ∧ zzl z p = c
  · rw [if_pos e, if_neg (by rw [Classical.not_not]; unfold zlq; rw [if_pos e.1, e.2])]
  · rw [if_neg e, if_pos]
    intro q
    unfold zlq at q
    by_cases e1 : p < zzn z
    · rw [if_pos e1] at q
      have := (b.2.2.2 p e1).2.2.2
      exact e ⟨e1, (nI_eq (by omega) (by omega)).mp q⟩
    · rw [if_neg e1] at q
      exact nI_pos (show c < 2 ^ 31 by omega) (by rw [← q]; decide)
theorem zt.s3 {z : ZZ} {d p : Nat} {v : Int32} {T : Tw} {μ ν : ZM} (h : zt z d p T μ ν) : zt z d p T (zk_si μ 95 3 v) ν := by
  obtain ⟨h1, h2, h3, h4, h5, h6, h7, h8, h9⟩ := h
  exact ⟨h1.s (by decide), h2, by rw [zp_sk (by omega)]; exact h3, h4, h5, h6, h7.fr' (fun k k1 k2 => by simp [zk_si, show k ≠ 95 by omega]), h8, h9⟩
theorem zq_47w {N g : Nat} {ν : ZM} (hg : 1 ≤ g) (h : ν.1 0 12 = 1) : f_X5_town_L47 N g 0 ν = f_X5_town_J101 N 0 ν := by
  obtain ⟨M, rfl⟩ : ∃ M, g = M + 1 := ⟨g - 1, by omega⟩
  unfold f_X5_town_L47
  rw [h, if_pos (show ¬ (1 : Int32) = 0 by decide)]
/-- the end of both readers -/
def zo1 (z : ZZ) (d y : Nat) (F G : Option (Int32 × ZM)) : Prop :=
  (∃ (N p : Nat) (U : Tw) (μ ν : ZM), 300 ≤ N ∧ F = some (1, μ) ∧ G = f_X5_town_J101 N 0 ν ∧ zt z d p U μ ν ∧ ty U = y) ∨ (∃ (N q : Nat) (μ ν : ZM), F = some (0, μ) ∧ G = f_X5_town_J101 N 0 ν ∧ zfl z q μ ν)
theorem zs_town_L {N d : Nat} {z : ZZ} (hN : 300 ≤ N) (b : zbase z) (hd : d < 2 ^ 31) : ∀ (f m g p : Nat) (T : Tw) (μ ν : ZM), 7 < m + f → m < 7 → tn T = m → 8 < m + g → zt z d p T μ ν → zo1 z d (ty T) (f_X2_readTown_L7 N f 95 98 (nI (m + 1)) μ) ((f_X5_readCouple N 0 ν).bind fun r => f_X5_town_L47 N g 0 r)
  | 0, m, g, p, T, μ, ν, hf, hm, hn, hg, h => absurd hf (by omega)
  | f + 1, m, g, p, T, μ, ν, hf, hm, hn, hg, h => by
    have hz := b.1
    unfold f_X2_readTown_L7
    have l7 : ((7 : Int32) < nI (m + 1)) = False := eq_false (nI_nlt (a := 7) (by omega) (by omega))
    simp only [l7, if_false, nI_1]
    rcases zs_couple hN b hd (show tn T < 7 by omega) h with ⟨p1, U, μ1, ν1, f1, g1, h1, u1, u2⟩ | ⟨q, μ1, ν1, f1, g1, h1⟩ | ⟨q, U, μ1, ν1, f1, g1, h1⟩
    · simp only [f1, g1, Option.bind_some, zt10, not_false_eq_true, if_true]
      obtain ⟨M, rfl⟩ : ∃ M, g = M + 1 := ⟨g - 1, by omega⟩
      obtain ⟨p2, μ2, ν2, f2, g2, h2, n2⟩ := zs_skip hN b h1
      obtain ⟨a1, a2, a3, a4, a5, a6, a7, a8, a9⟩ := id h2
      have w1 : ν1.1 0 12 = 0 := h1.2.2.2.2.2.1
      have z0 : ν2.1 2 0 = nI (m + 1) := by have q : ν2.1 2 0 = nI (tn U) := a8.1
                                            rw [q, u1, hn]
      have fe := zp_end b f2 a1 a3 a5
      have ft : f_X2_takes N 95 44 μ1 = _ := zp_tk (c := 44) b (by omega) f2 a1 a3 a5
      have gt : f_X5_takes N 0 44 ν2 = _ := zq_tk (c := 44) hN b (by omega) a2 a4 a5 n2
      have fd : f_X2_skipBlanks N 95 μ2 = some μ2 := zp_skid hN b a1 a3 a5 n2
      have fe2 := zp_end b fd a1 a3 a5
      have ww := zq_wrong (N := N) (x := nI p2) a6
      conv => rhs; unfold f_X5_town_L47
      simp only [w1, not_true_eq_false, if_false, g2, Option.bind_some, Nat.zero_add, z0, a4, ww, gt]
      by_cases e : p2 < zzn z
      · have hb := b.2.2.2 p2 e
        have q4 : (zlq z p2 = -4) = False := eq_false (fun q => by
          unfold zlq at q
          rw [if_pos e] at q
          exact nI_pos (show zzl z p2 < 2 ^ 31 by omega) (by rw [q]; decide))
        simp only [q4, if_false]
        by_cases e7 : m = 6
        · subst e7
          have s1 : (nI (6 + 1) = 7) = True := eq_true rfl
          have s2 : ((7 : Int32) ≤ nI (6 + 1)) = True := eq_true (by decide)
          simp only [s1, s2, if_true, fe, Option.bind_some, if_pos e, zp_z0]
          have h3 := h2.fl (q := p2)
          rw [zq_47w (by omega) h3.2.2.2.1]
          exact Or.inr ⟨N, p2, _, _, rfl, rfl, h3⟩
        · have s1 : (nI (m + 1) = 7) = False := eq_false (fun q => by
            have := (nI_eq (b := 7) (show m + 1 < 2 ^ 31 by omega) (by omega)).mp q
            omega)
          have s2 : ((7 : Int32) ≤ nI (m + 1)) = False := eq_false (nI_ge (b := 7) (by omega) (by omega))
          simp only [s1, s2, if_false, ft]
          by_cases ec : zzl z p2 = 44
          · simp only [if_pos (show p2 < zzn z ∧ zzl z p2 = 44 from ⟨e, ec⟩), Option.bind_some, zt10, not_false_eq_true, if_true, if_false]
            have ih := zs_town_L hN b hd f (m + 1) M (p2 + 1) U _ _ (by omega) (by omega) (by omega) (by omega) (h2.to (p' := p2 + 1) (by omega))
            rw [u2] at ih
            exact ih
          · have h3 := (h2.at).fl (q := p2)
            have w3 : (zk_si ν2 0 11 (nI p2)).1 0 12 = 0 := by rw [zp_sk (by omega)]; exact a6
            have r3 : (zk_si ν2 0 11 (nI p2)).1 0 11 = nI p2 := zp_ss
            have ww3 := zq_wrong (N := N) (x := nI p2) w3
            simp only [if_neg (show ¬ (p2 < zzn z ∧ zzl z p2 = 44) from fun q => ec q.2), Option.bind_some, not_true_eq_false, if_false, if_true, fe2, if_pos e, zp_z0, r3, ww3]
            rw [zq_47w (by omega) h3.2.2.2.1]
            exact Or.inr ⟨N, p2, _, _, rfl, rfl, h3⟩
      · have q4 : (zlq z p2 = -4) = True := eq_true (if_neg e)
        simp only [q4, if_true]
        by_cases e7 : m = 6
        · subst e7
          have s1 : (nI (6 + 1) = 7) = True := eq_true rfl
          simp only [s1, if_true, fe, Option.bind_some, if_neg e, zp_z1]
          exact Or.inl ⟨N, p2, U, _, _, hN, rfl, rfl, h2.s3, u2⟩
        · have s1 : (nI (m + 1) = 7) = False := eq_false (fun q => by
            have := (nI_eq (b := 7) (show m + 1 < 2 ^ 31 by omega) (by omega)).mp q
            omega)
          simp only [s1, if_false, ft, if_neg (show ¬ (p2 < zzn z ∧ zzl z p2 = 44) from fun q => e q.1), Option.bind_some, not_true_eq_false, fe2, if_neg e, zp_z1]
          exact Or.inl ⟨N, p2, U, _, _, hN, rfl, rfl, h2.s3, u2⟩
    · simp only [f1, g1, Option.bind_some, not_true_eq_false, if_false, zp_z0]
      rw [zq_47w (by omega) h1.2.2.2.1]
      exact Or.inr ⟨N, q, μ1, ν1, rfl, rfl, h1⟩
    · have w1 : ν1.1 0 12 = 1 := h1.2.2.2.2.2.2.2.2.1
      have ft : f_X2_takes N 95 44 μ1 = some (0, μ1) := h1.tk (c := 44) hN b (by omega) (by omega)
      obtain ⟨a1, a2, a3, a4, a5, a6, a7, a8, a9, a10⟩ := id h1
      have fd : f_X2_skipBlanks N 95 μ1 = some μ1 := zp_skid hN b a1 a3 (by omega) (fun _ => by omega)
      have fe := zp_end b fd a1 a3 (by omega)
      rw [if_pos a4] at fe
      simp only [f1, g1, Option.bind_some, zt10, not_false_eq_true, if_true, ft, not_true_eq_false, if_false, fe, zp_z0]
      rw [zq_47w (by omega) w1, ite_self]
      exact Or.inr ⟨N, q, _, ν1, rfl, rfl, a1.s (by decide), a2, zp_ss, w1, a10⟩
theorem zI_any (x : Int32) : ∃ e : Nat, x = nI e := by
  refine ⟨x.toBitVec.toNat, Int32.toBitVec_inj.mp ?_⟩
  show x.toBitVec = BitVec.ofNat 32 x.toBitVec.toNat
  simp
theorem zq_zero_L {N : Nat} {ν0 : ZM} : ∀ (f m : Nat) (ν : ZM), 32 < m + f → m ≤ 32 → (∀ j, j < m → ν.1 2 j = 0) → (∀ k, k ≠ 2 → ν.1 k = ν0.1 k) → ν.2 = ν0.2 → ∃ ν', f_X5_town_L2 N f 0 (nI m) ν = ((f_X5_readCouple N 0 (zk_si (zk_si (zk_si ν' 2 3 (ν'.1 1 3)) 0 11 0) 0 12 0)).bind fun r4 => f_X5_town_L47 N N 0 r4) ∧ (∀ j, j < 32 → ν'.1 2 j = 0) ∧ (∀ k, k ≠ 2 → ν'.1 k = ν0.1 k) ∧ ν'.2 = ν0.2
  | 0, m, ν, hf, hm, h1, h2, h3 => absurd hf (by omega)
  | f + 1, m, ν, hf, hm, h1, h2, h3 => by
    unfold f_X5_town_L2
    by_cases hin : m < 32
    · rw [if_neg (show ¬ (32 : Int32) ≤ nI m from nI_ge (b := 32) hin (by omega)), nI_1]
      simp only [zp_o hin (show 32 < 2 ^ 31 by omega), nI_clamp (show m < 2 ^ 31 by omega), Bool.false_eq_true, if_false, Nat.zero_add]
      refine zq_zero_L f (m + 1) _ (by omega) (by omega) (fun j hj => ?_) (fun k hk => ?_) h3
      · by_cases e : j = m
        · subst e; exact zp_ss
        · rw [zp_sk (by omega)]; exact h1 j (by omega)
      · rw [← h2 k hk]; simp [zk_si, hk]
    · have : m = 32 := by omega
      subst this
      rw [if_pos (show (32 : Int32) ≤ nI 32 by decide)]
      simp only [Nat.zero_add]
      exact ⟨ν, rfl, h1, h2, h3⟩
theorem zq_t123_L {N : Nat} {ν : ZM} : ∀ (f m : Nat), 32 < m + f → m ≤ 32 → f_X5_town_L123 N f 0 (nI m) (zk_ci ν 2 1 0 0 m) = some ((zk_si (zk_ci ν 2 1 0 0 32) 0 3 0).1 1 0, zk_si (zk_ci ν 2 1 0 0 32) 0 3 0)
  | 0, m, hf, hm => absurd hf (by omega)
  | f + 1, m, hf, hm => by
    unfold f_X5_town_L123
    by_cases hin : m < 32
    · rw [if_neg (show ¬ (32 : Int32) ≤ nI m from nI_ge (b := 32) hin (by omega)), nI_1]
      simp only [zp_o hin (show 32 < 2 ^ 31 by omega), nI_clamp (show m < 2 ^ 31 by omega), Bool.false_eq_true, if_false]
      have e := zc_s (μ := ν) (k0 := 2) (k1 := 1) (sp := 0) (dp := 0) (m := m) rfl
      rw [Nat.zero_add] at e
      rw [Nat.zero_add, Nat.zero_add, zc_ne (show (2 : Nat) ≠ 1 by decide), e]
      exact zq_t123_L f (m + 1) (by omega) (by omega)
    · have : m = 32 := by omega
      subst this
      rw [if_pos (show (32 : Int32) ≤ nI 32 by decide)]
theorem zl_town {N : Nat} (hN : 300 ≤ N) : zl_ok zr_rel (f_X4_town N 0) (f_X5_town N 0) := by
  intro μ ν hR
  obtain ⟨⟨T, hc, hr, hT, hy⟩, hp, hk, ⟨tz, L, t1, t2, t3, t4⟩, hs⟩ := id hR
  obtain ⟨e, he⟩ := zI_any (μ.1 98 7)
  have hd := hT.2.2.1
  have d1 : μ.1 1 7 = nI (td T) := hc.2.2.2.1
  have d2 : ν.1 1 3 = nI (td T) := hr.2.2.2.1
  have f0 : f_X3_empty N 98 μ = some (zk_si (zk_si (zk_si μ 98 4 0) 98 5 0) 98 6 0) := rfl
  generalize hμ : zk_si (zk_si (zk_si (zk_si μ 98 4 0) 98 5 0) 98 6 0) 95 2 0 = μ1
  obtain ⟨ν0, g0, z1, z2, z3⟩ := zq_zero_L (N := N) (ν0 := ν) N 0 ν (by omega) (by omega) (fun j hj => absurd hj (by omega)) (fun _ _ => rfl) rfl
  generalize hν : zk_si (zk_si (zk_si ν0 2 3 (ν0.1 1 3)) 0 11 0) 0 12 0 = ν1 at g0
  have mo : ∀ k, k ≠ 95 → k ≠ 98 → μ1.1 k = μ.1 k := fun k k1 k2 => by
    rw [← hμ]; simp [zk_si, k1, k2]
  have m95 : μ1.1 95 1 = μ.1 95 1 := by rw [← hμ, zp_sk (by omega), zp_sk (by omega), zp_sk (by omega), zp_sk (by omega)]
  have m2 : μ1.2 = μ.2 := by rw [← hμ]; rfl
  have no : ∀ k, k ≠ 0 → k ≠ 2 → ν1.1 k = ν.1 k := fun k k0 k2 => by
    rw [← z2 k k2, ← hν]; simp [zk_si, k0, k2]
  have n0 : ∀ j, j < 11 → ν1.1 0 j = ν.1 0 j := fun j hj => by
    rw [← hν, zp_sk (by omega), zp_sk (by omega), zp_sk (by omega), z2 0 (by decide)]
  have n2 : ν1.2 = ν.2 := by rw [← hν]; exact z3
  let z : ZZ := (μ1, ν1, tz, L)
  have b : zbase z := ⟨t1, m95.trans t2, (n0 10 (by omega)).trans t3, fun i hi => by
    obtain ⟨q1, q2, q3, q4⟩ := t4 i hi
    exact ⟨by rw [show (zzc z).1 96 = μ.1 96 from mo 96 (by decide) (by decide)]; exact q1, by rw [show (zzr z).1 7 = ν.1 7 from no 7 (by decide) (by decide)]; exact q2, q3, q4⟩⟩
  have h0 : zt z (td T) 0 (0, 0, 0, e, fun _ => 0, fun _ => 0, fun _ => 0, fun _ => 0) μ1 ν1 := by
    refine ⟨⟨fun _ _ _ => rfl, rfl, rfl⟩, ⟨fun _ _ _ _ => rfl, fun _ _ => rfl, rfl⟩, ?_, ?_, Nat.zero_le _, ?_, ⟨?_, ?_, ?_, ?_, fun i hi => absurd hi (Nat.not_lt_zero _)⟩, ⟨?_, ?_, ?_, ?_, fun i hi => absurd hi (Nat.not_lt_zero _)⟩, ⟨Nat.zero_le _, Nat.one_pos, by show 0 < 2 ^ 31; decide, fun i hi => absurd hi (Nat.not_lt_zero _)⟩⟩
    · rw [← hμ, zp_ss]; rfl
    · rw [← hν, zp_sk (by omega), zp_ss]; rfl
    · rw [← hν, zp_ss]
    · rw [← hμ, zp_sk (by omega), zp_sk (by omega), zp_sk (by omega), zp_ss]; rfl
    · rw [← hμ, zp_sk (by omega), zp_sk (by omega), zp_ss]; rfl
    · rw [← hμ, zp_sk (by omega), zp_ss]; rfl
    · rw [← hμ, zp_sk (by omega), zp_sk (by omega), zp_sk (by omega), zp_sk (by omega)]; exact he
    · rw [← hν, zp_sk (by omega), zp_sk (by omega), zp_sk (by omega)]; exact z1 0 (by omega)
    · rw [← hν, zp_sk (by omega), zp_sk (by omega), zp_sk (by omega)]; exact z1 1 (by omega)
    · rw [← hν, zp_sk (by omega), zp_sk (by omega), zp_sk (by omega)]; exact z1 2 (by omega)
    · rw [← hν, zp_sk (by omega), zp_sk (by omega), zp_ss, z2 1 (by decide)]; exact d2
  have key := zs_town_L hN b hd N 0 N 0 _ μ1 ν1 (by omega) (by omega) rfl (by omega) h0
  have ef : f_X2_readTown N 95 98 (zk_si (zk_si (zk_si μ 98 4 0) 98 5 0) 98 6 0) = f_X2_readTown_L7 N N 95 98 (nI (0 + 1)) μ1 := by rw [← hμ]; rfl
  have eg : f_X5_town N 0 ν = ((f_X5_readCouple N 0 ν1).bind fun r4 => f_X5_town_L47 N N 0 r4) := g0
  rw [eg]
  unfold f_X4_town
  simp only [Nat.zero_add, f0, Option.bind_some, ef]
  rcases key with ⟨N', p, U, μ2, ν2, hN', a1, a2, ⟨b1, b2, b3, b4, b5, b6, b7, b8, b9⟩, a4⟩ | ⟨N', q, μ2, ν2, a1, a2, b1, b2, b3, b4, b5⟩
  · have r7 : (zk_si μ2 95 1 0).1 1 7 = nI (td T) := by
      rw [zp_sk (by omega), b1.1 1 (by decide) (by omega)]
      show μ1.1 1 7 = _
      rw [mo 1 (by decide) (by decide)]; exact d1
    have c1 : CT (zk_si μ2 95 1 0) 98 U := b7.fr' (fun k k1 k2 => by simp [zk_si, show k ≠ 95 by omega])
    have c2 := c1.d (td T)
    have hU : tok (Td U (td T)) := tok_d (T := Td U 0) b9 hd
    obtain ⟨μ3, f3, c3, r3⟩ := zp_become (N := N) (a := 1) (b := 98) c2 hU.1 (by omega)
    have f4 : f_X0_forget N 6 μ3 = some (zk_si μ3 6 2 0) := rfl
    have c4 : CT (zk_si μ3 6 2 0) 1 (Td U (td T)) := c3.fr' (fun k k1 k2 => by simp [zk_si, show k ≠ 6 by omega])
    have n4 : (zk_si μ3 6 2 0).1 1 4 = nI (tn U) := c4.1
    have g3 := zq_t123_L (N := N') (ν := zk_si ν2 0 10 0) N' 0 (by omega) (by omega)
    rw [zc_0] at g3
    have g3 : f_X5_town_L123 N' N' 0 0 (zk_si ν2 0 10 0) = _ := g3
    have r12 : (zk_si ν2 0 10 0).1 0 12 = 0 := by rw [zp_sk (by omega)]; exact b6
    have hr2 : RT (zk_si (zk_ci (zk_si ν2 0 10 0) 2 1 0 0 32) 0 3 0) 1 0 (Td U (td T)) := by
      refine b8.mv hU.1 (fun j hj => ?_)
      rw [zp_sk (by omega), zc_in hj, zp_sk (by omega)]
    have n5 : (zk_si (zk_ci (zk_si ν2 0 10 0) 2 1 0 0 32) 0 3 0).1 1 0 = nI (tn U) := hr2.1
    have g4 : f_X5_town_J101 N' 0 ν2 = some (nI (tn U), zk_si (zk_ci (zk_si ν2 0 10 0) 2 1 0 0 32) 0 3 0) := by
      unfold f_X5_town_J101
      simp only [r12, if_true, g3, n5]
    rw [a2, g4]
    simp only [a1, Option.bind_some, zt10, not_false_eq_true, if_true, r7, f3, f4, n4]
    refine ⟨_, _, _, rfl, rfl, ?_⟩
    generalize hμ4 : zk_si μ3 6 2 0 = μ4 at c4
    generalize hν4 : zk_si (zk_ci (zk_si ν2 0 10 0) 2 1 0 0 32) 0 3 0 = ν4 at hr2
    have M : ∀ k, k = 0 ∨ 6 ≤ k → k ≠ 6 → k ≠ 95 → (k < 98 ∨ 102 < k) → μ4.1 k = μ.1 k := fun k k1 k6 k9 k98 => by
      rw [← hμ4]
      have e : (zk_si μ3 6 2 0).1 k = μ3.1 k := by simp [zk_si, k6]
      rw [e, r3.1 k (by omega)]
      have e : (zk_si (zk_si μ2 95 1 0) 98 7 (nI (td T))).1 k = μ2.1 k := by simp [zk_si, k9, show k ≠ 98 by omega]
      rw [e, b1.1 k k9 k98]
      exact mo k k9 (by omega)
    have M6 : μ4.1 6 1 = μ.1 6 1 := by
      rw [← hμ4, zp_sk (by omega), r3.1 6 (by omega), zp_sk (by omega), zp_sk (by omega), b1.1 6 (by decide) (by omega)]
      show μ1.1 6 1 = _
      rw [mo 6 (by decide) (by decide)]
    have M62 : μ4.1 6 2 = 0 := by rw [← hμ4, zp_ss]
    have M95 : μ4.1 95 1 = 0 := by
      rw [← hμ4, zp_sk (by omega), r3.1 95 (by omega), zp_sk (by omega), zp_ss]
    have M2 : μ4.2 = μ.2 := by
      rw [← hμ4]
      show μ3.2 = _
      rw [r3.2]
      show μ2.2 = _
      rw [b1.2.2]; exact m2
    have K : ∀ k, k ≠ 0 → k ≠ 1 → k ≠ 2 → k ≠ 6 → ν4.1 k = ν.1 k := fun k k0 k1 k2 k6 => by
      rw [← hν4]
      have e : (zk_si (zk_ci (zk_si ν2 0 10 0) 2 1 0 0 32) 0 3 0).1 k = (zk_ci (zk_si ν2 0 10 0) 2 1 0 0 32).1 k := by simp [zk_si, k0]
      rw [e, zc_ne k1]
      have e : (zk_si ν2 0 10 0).1 k = ν2.1 k := by simp [zk_si, k0]
      rw [e, b2.1 k k0 k2 k6]
      exact no k k0 k2
    have K0 : ∀ j, j < 10 → j ≠ 3 → ν4.1 0 j = ν.1 0 j := fun j hj j3 => by
      rw [← hν4, zp_sk (by omega), zc_ne (by decide), zp_sk (by omega), b2.2.1 j (by omega)]
      exact n0 j (by omega)
    have K03 : ν4.1 0 3 = 0 := by rw [← hν4, zp_ss]
    have K010 : ν4.1 0 10 = 0 := by rw [← hν4, zp_sk (by omega), zc_ne (by decide), zp_ss]
    have K2 : ν4.2 = ν.2 := by
      rw [← hν4]
      show ν2.2 = _
      rw [b2.2.2]; exact n2
    refine ⟨⟨Td U (td T), c4, hr2, hU, by show ty U ≤ 9999; rw [a4]; show 0 ≤ 9999; omega⟩, ?_, hk.fr (by rw [M 0 (by omega) (by omega) (by omega) (by omega)]) (fun k k1 k2 => M k (by omega) (by omega) (by omega) (by omega)) (K 4 (by decide) (by decide) (by decide) (by decide)) (K 5 (by decide) (by decide) (by decide) (by decide)) (K0 6 (by decide) (by decide)) (K0 7 (by decide) (by decide)), ⟨0, L, by omega, M95, K010, fun i hi => absurd hi (by omega)⟩, fun s hs4 => (hs s hs4).fr (M _ (by omega) (by omega) (by omega) (by omega)) (by rw [M2]) (K 8 (by decide) (by decide) (by decide) (by decide)) (K 9 (by decide) (by decide) (by decide) (by decide)) (by rw [K2])⟩
    obtain ⟨nx, sz, P, p1, p2, p3, p4, p5, p6⟩ := hp
    exact ⟨nx, 0, P, p1, by omega, M6.trans p3, M62, K03, fun i hi => absurd hi (by omega)⟩
  · have r3 : (zk_si μ2 95 1 0).1 95 3 = nI q := by rw [zp_sk (by omega)]; exact b3
    have r12 : (zk_si ν2 0 10 0).1 0 12 = 1 := by rw [zp_sk (by omega)]; exact b4
    have r13 : (zk_si ν2 0 10 0).1 0 13 = nI q := by rw [zp_sk (by omega)]; exact b5
    have g4 : f_X5_town_J101 N' 0 ν2 = some (-20 - nI q, zk_si ν2 0 10 0) := by
      unfold f_X5_town_J101
      simp only [r12, zt10, if_false, r13]
    rw [a2, g4]
    simp only [a1, Option.bind_some, not_true_eq_false, if_false, r3]
    refine ⟨_, _, _, rfl, rfl, zr_tp hR ⟨0, L, by omega, zp_ss, zp_ss, fun i hi => absurd hi (by omega)⟩ (fun k k1 k2 k3 => ?_) ?_ (fun k k0 k2 k6 k7 => ?_) (fun j hj => ?_) ?_⟩
    · have e : (zk_si μ2 95 1 0).1 k = μ2.1 k := by simp [zk_si, k1]
      rw [e, b1.1 k k1 k3]
      exact mo k k1 (by omega)
    · show μ2.2 = _
      rw [b1.2.2]; exact m2
    · have e : (zk_si ν2 0 10 0).1 k = ν2.1 k := by simp [zk_si, k0]
      rw [e, b2.1 k k0 k2 k6]
      exact no k k0 k2
    · rw [zp_sk (by omega), b2.2.1 j (by omega)]
      exact n0 j (by omega)
    · show ν2.2 = _
      rw [b2.2.2]; exact n2
