theorem zy_c4 : Cond.classLink RL 7 RX4 ∈ zk_T := zk_mem 35 (by decide +kernel) (by decide +kernel)
theorem zy_k4 : Cond.code yX4_init cX4_init 2 none ∈ zk_T := zk_mem 39 (by decide +kernel) (by decide +kernel)
theorem zy_i4 : Cond.instanceMethod yX4_init ∈ zk_T := zk_mem 38 (by decide +kernel) (by decide +kernel)
theorem zy_l4 : Cond.methodLink RL 9 yX4_init ∈ zk_T := zk_mem 37 (by decide +kernel) (by decide +kernel)
theorem zx_36 : Cond.instantiable RX4 8 ∈ zk_T := zk_mem 36 (by decide +kernel) (by decide +kernel)
theorem zy_c5 : Cond.classLink RL 10 RX5 ∈ zk_T := zk_mem 537 (by decide +kernel) (by decide +kernel)
theorem zy_k5 : Cond.code yX5_init cX5_init 1 none ∈ zk_T := zk_mem 541 (by decide +kernel) (by decide +kernel)
theorem zy_i5 : Cond.instanceMethod yX5_init ∈ zk_T := zk_mem 540 (by decide +kernel) (by decide +kernel)
theorem zy_l5 : Cond.methodLink RL 12 yX5_init ∈ zk_T := zk_mem 539 (by decide +kernel) (by decide +kernel)
theorem zx_538 : Cond.instantiable RX5 18 ∈ zk_T := zk_mem 538 (by decide +kernel) (by decide +kernel)
theorem zl_exit {L i : Nat} (hL : L ≤ 3584) (hi : i ≤ L) (h : ¬ i + 7 ≤ L) : nI L - 7 < nI i := by
  rcases Nat.lt_or_ge L 7 with h7 | h7
  · have h1 : nI L - nI 7 < 0 := pk_sneg (by omega) h7
    have h2 : 0 ≤ nI i := nI_pos' (by omega)
    exact Int32.lt_of_lt_of_le h1 h2
  · have e : nI L - nI 7 = nI (L - 7) := pk_sub h7
    show nI L - nI 7 < nI i
    rw [e]
    exact nI_lt (by omega) (by omega)
theorem zl_stay {L i : Nat} (hL : L ≤ 3584) (h : i + 7 ≤ L) : ¬ nI L - 7 < nI i := by
  have e : nI L - nI 7 = nI (L - 7) := pk_sub (by omega)
  show ¬ nI L - nI 7 < nI i
  rw [e]
  exact nI_nlt (by omega) (by omega)
set_option maxRecDepth 100000 in
set_option maxHeartbeats 4000000 in
theorem zl_loop {p : Program} {e : Env} {s : State} {m : MethodId} {below : List Frame} {meth : Method} {c : Code} {l : Launch} {b L : Nat} {xs : Nat → Int32} (hL : L ≤ 3584) (C0 : lw_At p s m meth c b L xs) {N : Nat} {Rel : ZM → ZM → Prop} (hall : zl_all N Rel) {adc adr : Nat → Nat} {D : va_G} {cA : Nat → ClassId} {AC AR : Nat → Prop} (hK1 : zk_K (adc, D, cA, zc_shp, AC) s) (hK2 : zk_K (adr, D, cA, zr_shp, AR) s) (hAC : ∀ q, AC q → s.heap.size ≤ q) (hAR : ∀ q, AR q → s.heap.size ≤ q) (hd1 : ∀ q, AR q → ¬ AC q) (hd2 : ∀ q, AC q → ¬ AR q) : ∀ (n i : Nat) (x3 : Int32), L < i + 7 * n + 7 → i ≤ L → x3 = nI i → ∀ (μ ν : ZM) (H : Heap) (locs : List Loc) (ls : Array Slot), Rel μ ν → zk_W (adc, D, cA, zc_shp, AC) μ H → zk_W (adr, D, cA, zr_shp, AR) ν H → va_S (fun q => s.heap.size ≤ q) s.heap H locs → lv_has ls 4 [(0, .ref b), (1, .ref (adc 0)), (2, .ref (adr 0)), (3, .int x3)] → W p l e room_1 s m #[Value.ref b] below meth c H locs 123 1751 (lw_Z below #[Value.ref b] s) (F0 m 18 ls []) := by
  obtain ⟨hx, hb, hr, hml, hown, hts0, hX, hbl, hlocks, hgv⟩ := id C0
  have hbA : ¬ (fun q : Nat => s.heap.size ≤ q) b := Nat.not_le.mpr hbl
  obtain ⟨k0, k1, k2, k3, k4, k5, k6, k7, k8, k9, k10, k11, k12, k13, k14, k15, k16, k17, k18, k19, k20, k21, k22, k23, k24, k25, k26, k27, k28, k29, k30, k31⟩ := hall
  intro n
  induction n with
  | zero =>
    intro i x3 hn hi ex μ ν H locs ls hR hWc hWr hS hl
    refine lv_iload_n hx hb dL_law_18 rfl (lv_at hl 3 rfl) ?_
    refine lv_aload_n hx hb dL_law_19 rfl (lv_at hl 0 rfl) ?_
    refine va_slen hx hb hX hbl hbA hS dL_law_20 ?_
    refine lv_bipush (v := 7) hx hb dL_law_21 (by decide) ?_
    refine lv_isub hx hb dL_law_23 ?_
    refine lv_icmp_gt (tgt := 1200) hx hb dL_law_24 (by decide) (fun _ => ?_) (fun hc => absurd (by rw [ex]; exact zl_exit hL hi (by omega)) hc)
    refine lv_iconst (v := 1) hx hb dL_law_1200 (by decide) ?_
    refine va_forget hS.2.2 ?_
    refine W.widen (k := 600000) (n := 7302250) (Nat.le_of_ble_eq_true rfl) (Nat.le_of_ble_eq_true rfl) ?_
    exact lw_ret hx hb hr hlocks dL_law_1201
  | succ n ih =>
    intro i x3 hn hi ex μ ν H locs ls hR hWc hWr hS hl
    refine lv_iload_n hx hb dL_law_18 rfl (lv_at hl 3 rfl) ?_
    refine lv_aload_n hx hb dL_law_19 rfl (lv_at hl 0 rfl) ?_
    refine va_slen hx hb hX hbl hbA hS dL_law_20 ?_
    refine lv_bipush (v := 7) hx hb dL_law_21 (by decide) ?_
    refine lv_isub hx hb dL_law_23 ?_
    by_cases h7 : i + 7 ≤ L
    · refine lv_icmp_gt (tgt := 1200) hx hb dL_law_24 (by decide) (fun hc => absurd (by rw [ex] at hc; exact hc) (zl_stay hL h7)) (fun _ => ?_)
      have hin : ∀ k : Nat, k < 7 → vp_in (x3 + nI k) L := fun k hk => by
        rw [ex, nI_add]
        exact vp_in_nI (by omega) (by omega)
      have hin0 : vp_in x3 L := by rw [ex]; exact vp_in_nI (by omega) (by omega)
      have kk : ∀ (μ1 ν1 : ZM) (H : Heap) (locs : List Loc), Rel μ1 ν1 → zk_W (adc, D, cA, zc_shp, AC) μ1 H → zk_W (adr, D, cA, zr_shp, AR) ν1 H → va_S (fun q => s.heap.size ≤ q) s.heap H locs → W p l e room_1 s m #[Value.ref b] below meth c H locs 123 1751 (lw_Z below #[Value.ref b] s) (F0 m 1194 ls []) := by
        intro μ1 ν1 H locs hR hWc hWr hS
        refine lv_iinc (v := x3 + 7) (lv' := [(3, .int (x3 + 7)), (0, .ref b), (1, .ref (adc 0)), (2, .ref (adr 0))]) hx hb dL_law_1194 hl (k := 3) rfl rfl (by decide) rfl (fun ls hl => ?_)
        refine lv_goto (tgt := 18) hx hb dL_law_1197 (by decide) ?_
        exact ih (i + 7) (x3 + 7) (by omega) h7 (by rw [ex]; exact nI_add i 7) μ1 ν1 H locs ls hR hWc hWr hS (lv_sub hl [1, 2, 3, 0] rfl)
      refine lv_aload_n hx hb dL_law_27 rfl (lv_at hl 0 rfl) ?_
      refine lv_iload_n hx hb dL_law_28 rfl (lv_at hl 3 rfl) ?_
      refine va_sld hx hb hX hbl hbA hS hin0 dL_law_29 ?_
      refine lv_bipush (v := 31) hx hb dL_law_30 (by decide) ?_
      refine lv_iand hx hb dL_law_32 ?_
      obtain ⟨j, hj, ej⟩ := pk_andE (xs x3.toNatClampNeg) (m := 31) 5 (by decide)
      rw [ej]
      have hj32 : j = 0 ∨ j = 1 ∨ j = 2 ∨ j = 3 ∨ j = 4 ∨ j = 5 ∨ j = 6 ∨ j = 7 ∨ j = 8 ∨ j = 9 ∨ j = 10 ∨ j = 11 ∨ j = 12 ∨ j = 13 ∨ j = 14 ∨ j = 15 ∨ j = 16 ∨ j = 17 ∨ j = 18 ∨ j = 19 ∨ j = 20 ∨ j = 21 ∨ j = 22 ∨ j = 23 ∨ j = 24 ∨ j = 25 ∨ j = 26 ∨ j = 27 ∨ j = 28 ∨ j = 29 ∨ j = 30 ∨ j = 31 := by omega
      clear ej hj
      rcases hj32 with rfl | rfl | rfl | rfl | rfl | rfl | rfl | rfl | rfl | rfl | rfl | rfl | rfl | rfl | rfl | rfl | rfl | rfl | rfl | rfl | rfl | rfl | rfl | rfl | rfl | rfl | rfl | rfl | rfl | rfl | rfl | rfl
      · exact lv_tableIn (off := 143) (tgt := 176) hx hb dL_law_33 (by decide) (by decide) (by decide +kernel) (by decide) (zlc_0 C0 hK1 hK2 hAC hAR hd1 hd2 k0 hin hR hWc hWr hS hl kk)
      · exact lv_tableIn (off := 176) (tgt := 209) hx hb dL_law_33 (by decide) (by decide) (by decide +kernel) (by decide) (zlc_1 C0 hK1 hK2 hAC hAR hd1 hd2 k1 hin hR hWc hWr hS hl kk)
      · exact lv_tableIn (off := 209) (tgt := 242) hx hb dL_law_33 (by decide) (by decide) (by decide +kernel) (by decide) (zlc_2 C0 hK1 hK2 hAC hAR hd1 hd2 k2 hin hR hWc hWr hS hl kk)
      · exact lv_tableIn (off := 232) (tgt := 265) hx hb dL_law_33 (by decide) (by decide) (by decide +kernel) (by decide) (zlc_3 C0 hK1 hK2 hAC hAR hd1 hd2 k3 hin hR hWc hWr hS hl kk)
      · exact lv_tableIn (off := 245) (tgt := 278) hx hb dL_law_33 (by decide) (by decide) (by decide +kernel) (by decide) (zlc_4 C0 hK1 hK2 hAC hAR hd1 hd2 k4 hin hR hWc hWr hS hl kk)
      · exact lv_tableIn (off := 268) (tgt := 301) hx hb dL_law_33 (by decide) (by decide) (by decide +kernel) (by decide) (zlc_5 C0 hK1 hK2 hAC hAR hd1 hd2 k5 hin hR hWc hWr hS hl kk)
      · exact lv_tableIn (off := 291) (tgt := 324) hx hb dL_law_33 (by decide) (by decide) (by decide +kernel) (by decide) (zlc_6 C0 hK1 hK2 hAC hAR hd1 hd2 k6 hin hR hWc hWr hS hl kk)
      · exact lv_tableIn (off := 324) (tgt := 357) hx hb dL_law_33 (by decide) (by decide) (by decide +kernel) (by decide) (zlc_7 C0 hK1 hK2 hAC hAR hd1 hd2 k7 hin hR hWc hWr hS hl kk)
      · exact lv_tableIn (off := 357) (tgt := 390) hx hb dL_law_33 (by decide) (by decide) (by decide +kernel) (by decide) (zlc_8 C0 hK1 hK2 hAC hAR hd1 hd2 k8 hin hR hWc hWr hS hl kk)
      · exact lv_tableIn (off := 380) (tgt := 413) hx hb dL_law_33 (by decide) (by decide) (by decide +kernel) (by decide) (zlc_9 C0 hK1 hK2 hAC hAR hd1 hd2 k9 hin hR hWc hWr hS hl kk)
      · exact lv_tableIn (off := 403) (tgt := 436) hx hb dL_law_33 (by decide) (by decide) (by decide +kernel) (by decide) (zlc_10 C0 hK1 hK2 hAC hAR hd1 hd2 k10 hin hR hWc hWr hS hl kk)
      · exact lv_tableIn (off := 416) (tgt := 449) hx hb dL_law_33 (by decide) (by decide) (by decide +kernel) (by decide) (zlc_11 C0 hK1 hK2 hAC hAR hd1 hd2 k11 hin hR hWc hWr hS hl kk)
      · exact lv_tableIn (off := 439) (tgt := 472) hx hb dL_law_33 (by decide) (by decide) (by decide +kernel) (by decide) (zlc_12 C0 hK1 hK2 hAC hAR hd1 hd2 k12 hin hR hWc hWr hS hl kk)
      · exact lv_tableIn (off := 462) (tgt := 495) hx hb dL_law_33 (by decide) (by decide) (by decide +kernel) (by decide) (zlc_13 C0 hK1 hK2 hAC hAR hd1 hd2 k13 hin hR hWc hWr hS hl kk)
      · exact lv_tableIn (off := 495) (tgt := 528) hx hb dL_law_33 (by decide) (by decide) (by decide +kernel) (by decide) (zlc_14 C0 hK1 hK2 hAC hAR hd1 hd2 k14 hin hR hWc hWr hS hl kk)
      · exact lv_tableIn (off := 518) (tgt := 551) hx hb dL_law_33 (by decide) (by decide) (by decide +kernel) (by decide) (zlc_15 C0 hK1 hK2 hAC hAR hd1 hd2 k15 hin hR hWc hWr hS hl kk)
      · exact lv_tableIn (off := 551) (tgt := 584) hx hb dL_law_33 (by decide) (by decide) (by decide +kernel) (by decide) (zlc_16 C0 hK1 hK2 hAC hAR hd1 hd2 k16 hin hR hWc hWr hS hl kk)
      · exact lv_tableIn (off := 574) (tgt := 607) hx hb dL_law_33 (by decide) (by decide) (by decide +kernel) (by decide) (zlc_17 C0 hK1 hK2 hAC hAR hd1 hd2 k17 hin hR hWc hWr hS hl kk)
      · exact lv_tableIn (off := 587) (tgt := 620) hx hb dL_law_33 (by decide) (by decide) (by decide +kernel) (by decide) (zlc_18 C0 hK1 hK2 hAC hAR hd1 hd2 k18 hin hR hWc hWr hS hl kk)
      · exact lv_tableIn (off := 630) (tgt := 663) hx hb dL_law_33 (by decide) (by decide) (by decide +kernel) (by decide) (zlc_19 C0 hK1 hK2 hAC hAR hd1 hd2 k19 hin hR hWc hWr hS hl kk)
      · exact lv_tableIn (off := 663) (tgt := 696) hx hb dL_law_33 (by decide) (by decide) (by decide +kernel) (by decide) (zlc_20 C0 hK1 hK2 hAC hAR hd1 hd2 k20 hin hR hWc hWr hS hl kk)
      · exact lv_tableIn (off := 696) (tgt := 729) hx hb dL_law_33 (by decide) (by decide) (by decide +kernel) (by decide) (zlc_21 C0 hK1 hK2 hAC hAR hd1 hd2 k21 hin hR hWc hWr hS hl kk)
      · exact lv_tableIn (off := 719) (tgt := 752) hx hb dL_law_33 (by decide) (by decide) (by decide +kernel) (by decide) (zlc_22 C0 hK1 hK2 hAC hAR hd1 hd2 k22 hin hR hWc hWr hS hl kk)
      · exact lv_tableIn (off := 742) (tgt := 775) hx hb dL_law_33 (by decide) (by decide) (by decide +kernel) (by decide) (zlc_23 C0 hK1 hK2 hAC hAR hd1 hd2 k23 hin hR hWc hWr hS hl kk)
      · exact lv_tableIn (off := 785) (tgt := 818) hx hb dL_law_33 (by decide) (by decide) (by decide +kernel) (by decide) (zlc_24 C0 hK1 hK2 hAC hAR hd1 hd2 k24 hin hR hWc hWr hS hl kk)
      · exact lv_tableIn (off := 798) (tgt := 831) hx hb dL_law_33 (by decide) (by decide) (by decide +kernel) (by decide) (zlc_25 C0 hK1 hK2 hAC hAR hd1 hd2 k25 hin hR hWc hWr hS hl kk)
      · exact lv_tableIn (off := 811) (tgt := 844) hx hb dL_law_33 (by decide) (by decide) (by decide +kernel) (by decide) (zlc_26 C0 hK1 hK2 hAC hAR hd1 hd2 k26 hin hR hWc hWr hS hl kk)
      · exact lv_tableIn (off := 886) (tgt := 919) hx hb dL_law_33 (by decide) (by decide) (by decide +kernel) (by decide) (zlc_27 C0 hK1 hK2 hAC hAR hd1 hd2 k27 hin hR hWc hWr hS hl kk)
      · exact lv_tableIn (off := 949) (tgt := 982) hx hb dL_law_33 (by decide) (by decide) (by decide +kernel) (by decide) (zlc_28 C0 hK1 hK2 hAC hAR hd1 hd2 k28 hin hR hWc hWr hS hl kk)
      · exact lv_tableIn (off := 992) (tgt := 1025) hx hb dL_law_33 (by decide) (by decide) (by decide +kernel) (by decide) (zlc_29 C0 hK1 hK2 hAC hAR hd1 hd2 k29 hin hR hWc hWr hS hl kk)
      · exact lv_tableIn (off := 1015) (tgt := 1048) hx hb dL_law_33 (by decide) (by decide) (by decide +kernel) (by decide) (zlc_30 C0 hK1 hK2 hAC hAR hd1 hd2 k30 hin hR hWc hWr hS hl kk)
      · exact lv_tableIn (off := 1098) (tgt := 1131) hx hb dL_law_33 (by decide) (by decide) (by decide +kernel) (by decide) (zlc_31 C0 hK1 hK2 hAC hAR hd1 hd2 k31 hin hR hWc hWr hS hl kk)
    · refine lv_icmp_gt (tgt := 1200) hx hb dL_law_24 (by decide) (fun _ => ?_) (fun hc => absurd (by rw [ex]; exact zl_exit hL hi h7) hc)
      refine lv_iconst (v := 1) hx hb dL_law_1200 (by decide) ?_
      refine va_forget hS.2.2 ?_
      refine W.widen (k := 600000) (n := 7302250) (Nat.le_of_ble_eq_true rfl) (Nat.le_of_ble_eq_true rfl) ?_
      exact lw_ret hx hb hr hlocks dL_law_1201
theorem zn_split {A : Nat → Prop} {w1 w2 : va_W} (h : va_D A (w1 ++ w2)) : va_D (fun q => ∃ x, (q, x) ∈ w1) w1 ∧ va_D (fun q => ∃ x, (q, x) ∈ w2) w2 ∧ (∀ q, (∃ x, (q, x) ∈ w1) → A q) ∧ (∀ q, (∃ x, (q, x) ∈ w2) → A q) ∧ ∀ q, (∃ x, (q, x) ∈ w2) → ¬ ∃ x, (q, x) ∈ w1 := by
  have l1 : ∀ (k : Nat) (q : Nat × va_E), w1[k]? = some q → (w1 ++ w2)[k]? = some q := fun k q hk => by rw [List.getElem?_append_left (List.getElem?_eq_some_iff.mp hk).1]; exact hk
  have l2 : ∀ (k : Nat) (q : Nat × va_E), w2[k]? = some q → (w1 ++ w2)[w1.length + k]? = some q := fun k q hk => by rw [List.getElem?_append_right (by omega), Nat.add_sub_cancel_left]; exact hk
  refine ⟨⟨fun i j p q hi hj e => h.1 i j p q (l1 i p hi) (l1 j q hj) e, fun k q hk => ⟨q.2, List.mem_of_getElem? hk⟩⟩, ⟨fun i j p q hi hj e => by
    have := h.1 _ _ p q (l2 i p hi) (l2 j q hj) e
    omega, fun k q hk => ⟨q.2, List.mem_of_getElem? hk⟩⟩, ?_, ?_, ?_⟩
  · rintro q ⟨x, hx⟩
    obtain ⟨k, hk⟩ := List.getElem?_of_mem hx
    exact h.2 k _ (l1 k _ hk)
  · rintro q ⟨x, hx⟩
    obtain ⟨k, hk⟩ := List.getElem?_of_mem hx
    exact h.2 _ _ (l2 k _ hk)
  · rintro q ⟨x, hx⟩ ⟨y, hy⟩
    obtain ⟨k, hk⟩ := List.getElem?_of_mem hx
    obtain ⟨j, hj⟩ := List.getElem?_of_mem hy
    have h1 := (List.getElem?_eq_some_iff.mp hj).1
    have := h.1 _ _ _ _ (l1 j _ hj) (l2 k _ hk) rfl
    omega
set_option maxRecDepth 100000 in
set_option maxHeartbeats 4000000 in
/-- the law from its entry, for any relation that every call keeps -/
theorem zl_start {p : Program} {e : Env} {s : State} {m : MethodId} {below : List Frame} {meth : Method} {c : Code} (l : Launch) {b L : Nat} {xs : Nat → Int32} (hL : L ≤ 3584) (C0 : lw_At p s m meth c b L xs) {N : Nat} {Rel : ZM → ZM → Prop} (hall : zl_all N Rel) (hR0 : Rel zc_m0 zr_m0) : W p l e room_1 s m #[Value.ref b] below meth c s.heap [] 0 0 (lw_Z below #[Value.ref b] s) (entryFrame m ([Value.ref b] : List Value).toArray 4) := by
  obtain ⟨hx, hb, hr, hml, hown, hts0, hX, hbl, hlocks, hgv⟩ := id C0
  have hown : s.vm.findClass RL = some m.cls := hown
  have hts : ∀ w ∈ zk_T, w.before #[Value.ref b] s = true := fun w hw => hts0 w (List.mem_filter.mp hw).1
  have hA : ∀ q : Nat, s.heap.size ≤ q → (fun q : Nat => s.heap.size ≤ q) q := fun _ h => h
  obtain ⟨c0, iS0, hKn0⟩ := u_known (C := RX0) (T := TX0) (N := 3) (n := 3) hts zl_0 (hts (.instantiable RX0 3) zx_84)
  obtain ⟨c1, iS1, hKn1⟩ := u_known (C := RX1) (T := TX1) (N := 3) (n := 3) hts zl_1 (hts (.instantiable RX1 3) zx_126)
  obtain ⟨c2, iS2, hKn2⟩ := u_known (C := RX2) (T := TX2) (N := 4) (n := 4) hts zl_2 (hts (.instantiable RX2 4) zx_104)
  obtain ⟨c3, iS3, hKn3⟩ := u_known (C := RX3) (T := TX3) (N := 8) (n := 8) hts zl_3 (hts (.instantiable RX3 8) zx_44)
  obtain ⟨c4, iS4, hKn4⟩ := u_known (C := RX4) (T := TX4) (N := 8) (n := 8) hts zl_4 (hts (.instantiable RX4 8) zx_36)
  obtain ⟨c5, iS5, hKn5⟩ := u_known (C := RX5) (T := TX5) (N := 18) (n := 18) hts zl_5 (hts (.instantiable RX5 18) zx_538)
  obtain ⟨dC, dI, hKc⟩ : ∃ (dC : Nat → ClassId) (dI : Nat → Nat → Nat), ∀ (k : Nat) (q : vw_C), vwCl[k]? = some q → u_Kn s q.1 q.2.1 q.2.2 (dC k) (dI k) := by
    refine ⟨fun k => [c0, c1, c2, c3, c4, c5].getD k 0, fun k => [iS0, iS1, iS2, iS3, iS4, iS5].getD k (fun _ => 0), ?_⟩
    intro k q hq
    match k, hq with
    | 0, hq => cases hq; exact hKn0
    | 1, hq => cases hq; exact hKn1
    | 2, hq => cases hq; exact hKn2
    | 3, hq => cases hq; exact hKn3
    | 4, hq => cases hq; exact hKn4
    | 5, hq => cases hq; exact hKn5
    | k + 6, hq => simp [vwCl] at hq
  obtain ⟨y1, j1, p1, f1, f2, f3⟩ := Cond.arrayClass_spec (hts _ zx_82)
  obtain ⟨y2, j2, p2, f4, f5, f6⟩ := Cond.arrayClass_spec (hts _ zx_598)
  obtain ⟨y3, j3, p3, f7, f8, f9⟩ := Cond.arrayClass_spec (hts _ zx_144)
  have hAO3 : va_AO RX3 s := va_AO.of (hts0 _ (List.mem_of_getElem? (i := 90) (by decide +kernel)))
  have hAO1 : va_AO RX1 s := va_AO.of (hts0 _ (List.mem_of_getElem? (i := 125) (by decide +kernel)))
  obtain ⟨p4, y4, j4, g1, g2, g3, g4, g5⟩ := Cond.arrayOver_spec hAO3
  obtain ⟨p5, y5, j5, g6, g7, g8, g9, g10⟩ := Cond.arrayOver_spec hAO1
  have hZ : zn_Z s := ⟨va_Nw.of rfl (hts0 _ (List.mem_of_getElem? (i := 91) (by decide +kernel))), va_Nw.of rfl (hts0 _ (List.mem_of_getElem? (i := 45) (by decide +kernel))), va_Nw.of rfl (hts0 _ (List.mem_of_getElem? (i := 105) (by decide +kernel))), va_Nw.of rfl (hts0 _ (List.mem_of_getElem? (i := 127) (by decide +kernel))), hAO3, hAO1⟩
  have hK : va_K (dC, dI) vwCl (zn_ty (fun k => [0, y1, y2, y3, y4, y5].getD k 0)) s := by
    refine ⟨hKc, fun k q hk => ?_⟩
    match k, hk with
    | 0, hk => cases hk; exact ⟨fun n z => ⟨fun k h => (by cases h), j1, f2, p1, f3⟩, f1⟩
    | 1, hk => cases hk; exact ⟨fun n z => ⟨fun k h => (by cases h), j2, f5, p2, f6⟩, f4⟩
    | 2, hk => cases hk; exact ⟨fun n z => ⟨fun k h => (by cases h), j3, f8, p3, f9⟩, f7⟩
    | 3, hk => cases hk; exact ⟨fun n z => ⟨fun k h => (by cases h), j4, g3, p4, g4⟩, j4, p4, g3, g4, g1, g5⟩
    | 4, hk => cases hk; exact ⟨fun n z => ⟨fun k h => (by cases h), j5, g8, p5, g9⟩, j5, p5, g8, g9, g6, g10⟩
    | k + 5, hk => simp [zn_ty] at hk
  generalize (fun k => [0, y1, y2, y3, y4, y5].getD k 0) = cA at hK
  generalize hDe : (dC, dI) = D at hK
  have hS : va_S (fun q : Nat => s.heap.size ≤ q) s.heap s.heap [] := va_S.rf
  have hP : va_P D vwCl [] s.heap := fun k q h => by simp at h
  have hD : va_D (fun q : Nat => s.heap.size ≤ q) [] := ⟨fun i j p q h => by simp at h, fun k q h => by simp at h⟩
  have hl := lv_entry ([.ref b]) (n := 4) (Nat.le_of_ble_eq_true rfl)
  rw [lg_entry_eq]
  generalize (lg_sl ([.ref b]) ++ List.replicate (4 - (lg_sl ([.ref b])).length) Slot.unset).toArray = ls at hl ⊢
  have hl : lv_has ls 4 [(0, .ref b)] := hl

  refine zn_ni (own := RL) (C := RX4) (T := TX4) (N := 8) (ci := 4) (ty := tyX4) (fs := [.null, .null, .null, .null, .null, .null, .null, .int 0]) (y := yX4_init) (cc1 := cX4_init) (nL1 := 2) (rm1 := ({ frames := 3, cells := 110, slots := 902, locals := 53 } : Room)) (mc := 110) (ms := 902) (PW := zp_X4_init) hx hb hml hl.1 hown hts hZ hK hP hD hS hA zl_4 tyX4_ok rfl zd_4 zy_c4 zx_36 zw_26 c_X4_init zy_k4 zy_i4 (Or.inl zy_l4) rfl rfl (by decide +kernel) rfl rfl ⟨(Nat.le_of_ble_eq_true rfl), (Nat.le_of_ble_eq_true rfl)⟩ (Nat.le_of_ble_eq_true rfl) (Nat.le_of_ble_eq_true rfl) (Nat.le_of_ble_eq_true rfl) dL_law_0 dL_law_3 dL_law_4 (fun qc w1 H locs hw1 hP hD hS => ?_)
  refine lv_astore_n (lv' := [(1, .ref qc), (0, .ref b)]) hx hb dL_law_7 rfl hl (by decide) rfl (fun ls hl => ?_)
  refine zn_ni (own := RL) (C := RX5) (T := TX5) (N := 18) (ci := 5) (ty := tyX5) (fs := [.null, .null, .null, .int 0, .null, .null, .int 0, .int 0, .null, .null, .int 0, .int 0, .int 0, .int 0, .null, .null, .null, .null]) (y := yX5_init) (cc1 := cX5_init) (nL1 := 1) (rm1 := ({ frames := 1, cells := 11, slots := 823, locals := 12 } : Room)) (mc := 11) (ms := 823) (PW := zp_X5_init) hx hb hml hl.1 hown hts hZ hK hP hD hS hA zl_5 tyX5_ok rfl zd_5 zy_c5 zx_538 zw_31 c_X5_init zy_k5 zy_i5 (Or.inl zy_l5) rfl rfl (by decide +kernel) rfl rfl ⟨(Nat.le_of_ble_eq_true rfl), (Nat.le_of_ble_eq_true rfl)⟩ (Nat.le_of_ble_eq_true rfl) (Nat.le_of_ble_eq_true rfl) (Nat.le_of_ble_eq_true rfl) dL_law_8 dL_law_11 dL_law_12 (fun qr w2 H locs hw2 hP hD hS => ?_)
  refine lv_astore_n (lv' := [(2, .ref qr), (1, .ref qc), (0, .ref b)]) hx hb dL_law_15 rfl hl (by decide) rfl (fun ls hl => ?_)
  refine lv_iconst (v := 0) hx hb dL_law_16 (by decide) ?_
  refine lv_istore_n (lv' := [(3, .int 0), (2, .ref qr), (1, .ref qc), (0, .ref b)]) hx hb dL_law_17 rfl hl (by decide) rfl (fun ls hl => ?_)
  have hP : va_P D vwCl (w1 ++ w2) H := hP
  have hD : va_D (fun q : Nat => s.heap.size ≤ q) (w1 ++ w2) := hD
  obtain ⟨d1, d2, d3, d4, d5⟩ := zn_split hD
  have hPm := zn_mem.mp hP
  have hP1 : va_P D vwCl w1 H := zn_mem.mpr (fun q hq => hPm q (List.mem_append_left _ hq))
  have hP2 : va_P D vwCl w2 H := zn_mem.mpr (fun q hq => hPm q (List.mem_append_right _ hq))
  obtain ⟨adc, ec, hWc⟩ := zn_asmC hw1 hP1 d1
  obtain ⟨adr, er, hWr⟩ := zn_asmR hw2 hP2 d2
  subst ec
  subst er
  exact zl_loop hL C0 hall hK hK d3 d4 d5 (fun q h1 h2 => d5 q h2 h1) 512 0 0 (by omega) (Nat.zero_le _) nI_0.symm zc_m0 zr_m0 H locs ls hR0 hWc hWr hS (lv_sub hl [3, 2, 1, 0] rfl)
