-- the start, and all calls
theorem zr_start : zr_rel zc_m0 zr_m0 := by
  refine ⟨⟨(0, 0, 0, 1, fun _ => 0, fun _ => 0, fun _ => 0, fun _ => 0), ⟨rfl, rfl, rfl, rfl, fun i hi => absurd hi (Nat.not_lt_zero i)⟩, ⟨rfl, rfl, rfl, rfl, fun i hi => absurd hi (Nat.not_lt_zero i)⟩, ⟨Nat.zero_le _, Nat.one_pos, by show 1 < 2 ^ 31; decide, fun i hi => absurd hi (Nat.not_lt_zero i)⟩, Nat.zero_le _⟩, ⟨0, 0, fun _ => (0, 0, 0, 0, fun _ => 0, fun _ => 0, fun _ => 0, fun _ => 0), by omega, by omega, rfl, rfl, rfl, fun i hi => absurd hi (Nat.not_lt_zero i)⟩, Or.inl ⟨rfl, rfl⟩, ⟨0, fun _ => 0, by omega, rfl, rfl, fun i hi => absurd hi (Nat.not_lt_zero i)⟩, fun s hs => ?_⟩
  rcases (show s = 0 ∨ s = 1 ∨ s = 2 ∨ s = 3 by omega) with rfl | rfl | rfl | rfl
  · exact ⟨0, 0, by omega, by omega, by decide, rfl, rfl, rfl, fun _ _ => rfl⟩
  · exact ⟨0, 0, by omega, by omega, by decide, rfl, rfl, rfl, fun _ _ => rfl⟩
  · exact ⟨0, 0, by omega, by omega, by decide, rfl, rfl, rfl, fun _ _ => rfl⟩
  · exact ⟨0, 0, by omega, by omega, by decide, rfl, rfl, rfl, fun _ _ => rfl⟩
theorem zl_every {N : Nat} (hN : 300 ≤ N) : zl_all N zr_rel :=
  ⟨fun a b => zl_couple a b, fun a b => zl_of hN a b, fun a => zl_type a, zl_town hN, fun a => zl_count hN a, fun a => zl_years hN a, fun a b => zl_nurse hN a b, fun a b => zl_stir hN a b, fun a => zl_wed hN a, fun a => zl_drift hN a, zl_undo hN, fun a => zl_seed a, fun a => zl_keys hN a, fun a b => zl_ahead hN a b, fun a => zl_then hN a, fun a b => zl_rises hN a b, fun a => zl_parts hN a, zl_ever hN, fun a b c => zl_rivals hN a b c, fun a b => zl_needs hN a b, fun a b => zl_soothe hN a b, fun a => zl_start_ hN a, fun a => zl_sum hN a, fun a b c => zl_rows hN a b c, zl_image hN, zl_restore hN, fun a b c d e f => zl_heard hN a b c d e f, fun a b c d e => zl_film hN a b c d e, fun a b c => zl_sheet hN a b c, fun a => zl_drop a, fun a b c d => zl_item a b c d, fun a b c d e => zl_copy hN a b c d e⟩
theorem zz_pure : ∃ (N : Nat) (Rel : ZM → ZM → Prop), zl_all N Rel ∧ Rel zc_m0 zr_m0 := ⟨300, zr_rel, zl_every (Nat.le_refl _), zr_start⟩
