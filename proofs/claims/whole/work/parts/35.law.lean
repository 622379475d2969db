set_option maxRecDepth 100000 in
set_option maxHeartbeats 4000000 in
theorem zlc_0 {p : Program} {e : Env} {s : State} {m : MethodId} {below : List Frame} {meth : Method} {c : Code} {l : Launch} {b L : Nat} {xs : Nat → Int32} (C0 : lw_At p s m meth c b L xs) {N : Nat} {Rel : ZM → ZM → Prop} {adc adr : Nat → Nat} {D : va_G} {cA : Nat → ClassId} {AC AR : Nat → Prop} (hK1 : zk_K (adc, D, cA, zc_shp, AC) s) (hK2 : zk_K (adr, D, cA, zr_shp, AR) s) (hAC : ∀ q, AC q → s.heap.size ≤ q) (hAR : ∀ q, AR q → s.heap.size ≤ q) (hd1 : ∀ q, AR q → ¬ AC q) (hd2 : ∀ q, AC q → ¬ AR q) (hk : ∀ (a : Int32) (b : Int32), zl_ok Rel (f_X4_couple N 0 a b) (f_X5_couple N 0 a b)) {μ ν : ZM} {H : Heap} {locs : List Loc} {ls : Array Slot} {x3 : Int32} (hin : ∀ k : Nat, k < 7 → vp_in (x3 + nI k) L) (hR : Rel μ ν) (hWc : zk_W (adc, D, cA, zc_shp, AC) μ H) (hWr : zk_W (adr, D, cA, zr_shp, AR) ν H) (hS : va_S (fun q => s.heap.size ≤ q) s.heap H locs) (hl : lv_has ls 4 [(0, .ref b), (1, .ref (adc 0)), (2, .ref (adr 0)), (3, .int x3)])
    (kk : ∀ (μ1 ν1 : ZM) (H : Heap) (locs : List Loc), Rel μ1 ν1 → zk_W (adc, D, cA, zc_shp, AC) μ1 H → zk_W (adr, D, cA, zr_shp, AR) ν1 H → va_S (fun q => s.heap.size ≤ q) s.heap H locs → W p l e room_1 s m #[Value.ref b] below meth c H locs 123 1751 (lw_Z below #[Value.ref b] s) (F0 m 1194 ls [])) : W p l e room_1 s m #[Value.ref b] below meth c H locs 123 1751 (lw_Z below #[Value.ref b] s) (F0 m 176 ls []) := by
  obtain ⟨hx, hb, hr, hml, hown, hts0, hX, hbl, hlocks, hgv⟩ := id C0
  have hts : ∀ w ∈ zk_T, w.before #[Value.ref b] s = true := fun w hw => hts0 w (List.mem_filter.mp hw).1
  have hbA : ¬ (fun q : Nat => s.heap.size ≤ q) b := Nat.not_le.mpr hbl
  obtain ⟨v, μ1, ν1, hf, hg, hR1⟩ := hk (xs (x3 + 1).toNatClampNeg) (xs (x3 + 2).toNatClampNeg) μ ν hR
  refine lv_aload_n hx hb dL_law_176 rfl (lv_at hl 1 rfl) ?_
  refine lv_aload_n hx hb dL_law_177 rfl (lv_at hl 0 rfl) ?_
  refine lv_iload_n hx hb dL_law_178 rfl (lv_at hl 3 rfl) ?_
  refine lv_iconst (v := 1) hx hb dL_law_179 (by decide) ?_
  refine lv_iadd hx hb dL_law_180 ?_
  refine va_sld hx hb hX hbl hbA hS (hin 1 (by decide)) dL_law_181 ?_
  refine lv_aload_n hx hb dL_law_182 rfl (lv_at hl 0 rfl) ?_
  refine lv_iload_n hx hb dL_law_183 rfl (lv_at hl 3 rfl) ?_
  refine lv_iconst (v := 2) hx hb dL_law_184 (by decide) ?_
  refine lv_iadd hx hb dL_law_185 ?_
  refine va_sld hx hb hX hbl hbA hS (hin 2 (by decide)) dL_law_186 ?_
  refine zl_call (E := (adc, D, cA, zc_shp, AC)) (E2 := (adr, D, cA, zr_shp, AR)) (own := RL) (k := 0) (G := g_X4_couple N) (r := (v, μ1)) [.inl (xs (x3 + 1).toNatClampNeg), .inl (xs (x3 + 2).toNatClampNeg)] hx hb hml hl.1 hown hts hK1 hWc hWr hS hAC hd1 (m_X4_couple N) hf zc_ok rfl (fun w hw => by revert w; simp [zk_w]) rfl zw_170 ⟨Nat.le_of_ble_eq_true rfl, Nat.le_of_ble_eq_true rfl⟩ ⟨Nat.le_of_ble_eq_true rfl, Nat.le_of_ble_eq_true rfl⟩ rfl (Nat.le_of_ble_eq_true rfl) dL_law_187 (fun H locs hWc hWr hS => ?_)
  refine lv_aload_n hx hb dL_law_190 rfl (lv_at hl 2 rfl) ?_
  refine lv_aload_n hx hb dL_law_191 rfl (lv_at hl 0 rfl) ?_
  refine lv_iload_n hx hb dL_law_192 rfl (lv_at hl 3 rfl) ?_
  refine lv_iconst (v := 1) hx hb dL_law_193 (by decide) ?_
  refine lv_iadd hx hb dL_law_194 ?_
  refine va_sld hx hb hX hbl hbA hS (hin 1 (by decide)) dL_law_195 ?_
  refine lv_aload_n hx hb dL_law_196 rfl (lv_at hl 0 rfl) ?_
  refine lv_iload_n hx hb dL_law_197 rfl (lv_at hl 3 rfl) ?_
  refine lv_iconst (v := 2) hx hb dL_law_198 (by decide) ?_
  refine lv_iadd hx hb dL_law_199 ?_
  refine va_sld hx hb hX hbl hbA hS (hin 2 (by decide)) dL_law_200 ?_
  refine zl_call (E := (adr, D, cA, zr_shp, AR)) (E2 := (adc, D, cA, zc_shp, AC)) (own := RL) (k := 0) (G := g_X5_couple N) (r := (v, ν1)) [.inl (xs (x3 + 1).toNatClampNeg), .inl (xs (x3 + 2).toNatClampNeg)] hx hb hml hl.1 hown hts hK2 hWr hWc hS hAR hd2 (m_X5_couple N) hg zr_ok rfl (fun w hw => by revert w; simp [zk_w]) rfl zw_599 ⟨Nat.le_of_ble_eq_true rfl, Nat.le_of_ble_eq_true rfl⟩ ⟨Nat.le_of_ble_eq_true rfl, Nat.le_of_ble_eq_true rfl⟩ rfl (Nat.le_of_ble_eq_true rfl) dL_law_201 (fun H locs hWr hWc hS => ?_)
  refine lv_icmp_eq (tgt := 1194) hx hb dL_law_204 (by decide) (fun _ => ?_) (fun hc => absurd rfl hc)
  exact kk μ1 ν1 H locs hR1 hWc hWr hS
set_option maxRecDepth 100000 in
set_option maxHeartbeats 4000000 in
theorem zlc_1 {p : Program} {e : Env} {s : State} {m : MethodId} {below : List Frame} {meth : Method} {c : Code} {l : Launch} {b L : Nat} {xs : Nat → Int32} (C0 : lw_At p s m meth c b L xs) {N : Nat} {Rel : ZM → ZM → Prop} {adc adr : Nat → Nat} {D : va_G} {cA : Nat → ClassId} {AC AR : Nat → Prop} (hK1 : zk_K (adc, D, cA, zc_shp, AC) s) (hK2 : zk_K (adr, D, cA, zr_shp, AR) s) (hAC : ∀ q, AC q → s.heap.size ≤ q) (hAR : ∀ q, AR q → s.heap.size ≤ q) (hd1 : ∀ q, AR q → ¬ AC q) (hd2 : ∀ q, AC q → ¬ AR q) (hk : ∀ (a : Int32) (b : Int32), zl_ok Rel (f_X4_of N 0 a b) (f_X5_of N 0 a b)) {μ ν : ZM} {H : Heap} {locs : List Loc} {ls : Array Slot} {x3 : Int32} (hin : ∀ k : Nat, k < 7 → vp_in (x3 + nI k) L) (hR : Rel μ ν) (hWc : zk_W (adc, D, cA, zc_shp, AC) μ H) (hWr : zk_W (adr, D, cA, zr_shp, AR) ν H) (hS : va_S (fun q => s.heap.size ≤ q) s.heap H locs) (hl : lv_has ls 4 [(0, .ref b), (1, .ref (adc 0)), (2, .ref (adr 0)), (3, .int x3)])
    (kk : ∀ (μ1 ν1 : ZM) (H : Heap) (locs : List Loc), Rel μ1 ν1 → zk_W (adc, D, cA, zc_shp, AC) μ1 H → zk_W (adr, D, cA, zr_shp, AR) ν1 H → va_S (fun q => s.heap.size ≤ q) s.heap H locs → W p l e room_1 s m #[Value.ref b] below meth c H locs 123 1751 (lw_Z below #[Value.ref b] s) (F0 m 1194 ls [])) : W p l e room_1 s m #[Value.ref b] below meth c H locs 123 1751 (lw_Z below #[Value.ref b] s) (F0 m 209 ls []) := by
  obtain ⟨hx, hb, hr, hml, hown, hts0, hX, hbl, hlocks, hgv⟩ := id C0
  have hts : ∀ w ∈ zk_T, w.before #[Value.ref b] s = true := fun w hw => hts0 w (List.mem_filter.mp hw).1
  have hbA : ¬ (fun q : Nat => s.heap.size ≤ q) b := Nat.not_le.mpr hbl
  obtain ⟨v, μ1, ν1, hf, hg, hR1⟩ := hk (xs (x3 + 1).toNatClampNeg) (xs (x3 + 2).toNatClampNeg) μ ν hR
  refine lv_aload_n hx hb dL_law_209 rfl (lv_at hl 1 rfl) ?_
  refine lv_aload_n hx hb dL_law_210 rfl (lv_at hl 0 rfl) ?_
  refine lv_iload_n hx hb dL_law_211 rfl (lv_at hl 3 rfl) ?_
  refine lv_iconst (v := 1) hx hb dL_law_212 (by decide) ?_
  refine lv_iadd hx hb dL_law_213 ?_
  refine va_sld hx hb hX hbl hbA hS (hin 1 (by decide)) dL_law_214 ?_
  refine lv_aload_n hx hb dL_law_215 rfl (lv_at hl 0 rfl) ?_
  refine lv_iload_n hx hb dL_law_216 rfl (lv_at hl 3 rfl) ?_
  refine lv_iconst (v := 2) hx hb dL_law_217 (by decide) ?_
  refine lv_iadd hx hb dL_law_218 ?_
  refine va_sld hx hb hX hbl hbA hS (hin 2 (by decide)) dL_law_219 ?_
  refine zl_call (E := (adc, D, cA, zc_shp, AC)) (E2 := (adr, D, cA, zr_shp, AR)) (own := RL) (k := 0) (G := g_X4_of N) (r := (v, μ1)) [.inl (xs (x3 + 1).toNatClampNeg), .inl (xs (x3 + 2).toNatClampNeg)] hx hb hml hl.1 hown hts hK1 hWc hWr hS hAC hd1 (m_X4_of N) hf zc_ok rfl (fun w hw => by revert w; simp [zk_w]) rfl zw_185 ⟨Nat.le_of_ble_eq_true rfl, Nat.le_of_ble_eq_true rfl⟩ ⟨Nat.le_of_ble_eq_true rfl, Nat.le_of_ble_eq_true rfl⟩ rfl (Nat.le_of_ble_eq_true rfl) dL_law_220 (fun H locs hWc hWr hS => ?_)
  refine lv_aload_n hx hb dL_law_223 rfl (lv_at hl 2 rfl) ?_
  refine lv_aload_n hx hb dL_law_224 rfl (lv_at hl 0 rfl) ?_
  refine lv_iload_n hx hb dL_law_225 rfl (lv_at hl 3 rfl) ?_
  refine lv_iconst (v := 1) hx hb dL_law_226 (by decide) ?_
  refine lv_iadd hx hb dL_law_227 ?_
  refine va_sld hx hb hX hbl hbA hS (hin 1 (by decide)) dL_law_228 ?_
  refine lv_aload_n hx hb dL_law_229 rfl (lv_at hl 0 rfl) ?_
  refine lv_iload_n hx hb dL_law_230 rfl (lv_at hl 3 rfl) ?_
  refine lv_iconst (v := 2) hx hb dL_law_231 (by decide) ?_
  refine lv_iadd hx hb dL_law_232 ?_
  refine va_sld hx hb hX hbl hbA hS (hin 2 (by decide)) dL_law_233 ?_
  refine zl_call (E := (adr, D, cA, zr_shp, AR)) (E2 := (adc, D, cA, zc_shp, AC)) (own := RL) (k := 0) (G := g_X5_of N) (r := (v, ν1)) [.inl (xs (x3 + 1).toNatClampNeg), .inl (xs (x3 + 2).toNatClampNeg)] hx hb hml hl.1 hown hts hK2 hWr hWc hS hAR hd2 (m_X5_of N) hg zr_ok rfl (fun w hw => by revert w; simp [zk_w]) rfl zw_609 ⟨Nat.le_of_ble_eq_true rfl, Nat.le_of_ble_eq_true rfl⟩ ⟨Nat.le_of_ble_eq_true rfl, Nat.le_of_ble_eq_true rfl⟩ rfl (Nat.le_of_ble_eq_true rfl) dL_law_234 (fun H locs hWr hWc hS => ?_)
  refine lv_icmp_eq (tgt := 1194) hx hb dL_law_237 (by decide) (fun _ => ?_) (fun hc => absurd rfl hc)
  exact kk μ1 ν1 H locs hR1 hWc hWr hS
set_option maxRecDepth 100000 in
set_option maxHeartbeats 4000000 in
theorem zlc_2 {p : Program} {e : Env} {s : State} {m : MethodId} {below : List Frame} {meth : Method} {c : Code} {l : Launch} {b L : Nat} {xs : Nat → Int32} (C0 : lw_At p s m meth c b L xs) {N : Nat} {Rel : ZM → ZM → Prop} {adc adr : Nat → Nat} {D : va_G} {cA : Nat → ClassId} {AC AR : Nat → Prop} (hK1 : zk_K (adc, D, cA, zc_shp, AC) s) (hK2 : zk_K (adr, D, cA, zr_shp, AR) s) (hAC : ∀ q, AC q → s.heap.size ≤ q) (hAR : ∀ q, AR q → s.heap.size ≤ q) (hd1 : ∀ q, AR q → ¬ AC q) (hd2 : ∀ q, AC q → ¬ AR q) (hk : ∀ (a : Int32), zl_ok Rel (f_X4_type N 0 a) (f_X5_type N 0 a)) {μ ν : ZM} {H : Heap} {locs : List Loc} {ls : Array Slot} {x3 : Int32} (hin : ∀ k : Nat, k < 7 → vp_in (x3 + nI k) L) (hR : Rel μ ν) (hWc : zk_W (adc, D, cA, zc_shp, AC) μ H) (hWr : zk_W (adr, D, cA, zr_shp, AR) ν H) (hS : va_S (fun q => s.heap.size ≤ q) s.heap H locs) (hl : lv_has ls 4 [(0, .ref b), (1, .ref (adc 0)), (2, .ref (adr 0)), (3, .int x3)])
    (kk : ∀ (μ1 ν1 : ZM) (H : Heap) (locs : List Loc), Rel μ1 ν1 → zk_W (adc, D, cA, zc_shp, AC) μ1 H → zk_W (adr, D, cA, zr_shp, AR) ν1 H → va_S (fun q => s.heap.size ≤ q) s.heap H locs → W p l e room_1 s m #[Value.ref b] below meth c H locs 123 1751 (lw_Z below #[Value.ref b] s) (F0 m 1194 ls [])) : W p l e room_1 s m #[Value.ref b] below meth c H locs 123 1751 (lw_Z below #[Value.ref b] s) (F0 m 242 ls []) := by
  obtain ⟨hx, hb, hr, hml, hown, hts0, hX, hbl, hlocks, hgv⟩ := id C0
  have hts : ∀ w ∈ zk_T, w.before #[Value.ref b] s = true := fun w hw => hts0 w (List.mem_filter.mp hw).1
  have hbA : ¬ (fun q : Nat => s.heap.size ≤ q) b := Nat.not_le.mpr hbl
  obtain ⟨v, μ1, ν1, hf, hg, hR1⟩ := hk (xs (x3 + 1).toNatClampNeg) μ ν hR
  refine lv_aload_n hx hb dL_law_242 rfl (lv_at hl 1 rfl) ?_
  refine lv_aload_n hx hb dL_law_243 rfl (lv_at hl 0 rfl) ?_
  refine lv_iload_n hx hb dL_law_244 rfl (lv_at hl 3 rfl) ?_
  refine lv_iconst (v := 1) hx hb dL_law_245 (by decide) ?_
  refine lv_iadd hx hb dL_law_246 ?_
  refine va_sld hx hb hX hbl hbA hS (hin 1 (by decide)) dL_law_247 ?_
  refine zl_call (E := (adc, D, cA, zc_shp, AC)) (E2 := (adr, D, cA, zr_shp, AR)) (own := RL) (k := 0) (G := g_X4_type N) (r := (v, μ1)) [.inl (xs (x3 + 1).toNatClampNeg)] hx hb hml hl.1 hown hts hK1 hWc hWr hS hAC hd1 (m_X4_type N) hf zc_ok rfl (fun w hw => by revert w; simp [zk_w]) rfl zw_218 ⟨Nat.le_of_ble_eq_true rfl, Nat.le_of_ble_eq_true rfl⟩ ⟨Nat.le_of_ble_eq_true rfl, Nat.le_of_ble_eq_true rfl⟩ rfl (Nat.le_of_ble_eq_true rfl) dL_law_248 (fun H locs hWc hWr hS => ?_)
  refine lv_aload_n hx hb dL_law_251 rfl (lv_at hl 2 rfl) ?_
  refine lv_aload_n hx hb dL_law_252 rfl (lv_at hl 0 rfl) ?_
  refine lv_iload_n hx hb dL_law_253 rfl (lv_at hl 3 rfl) ?_
  refine lv_iconst (v := 1) hx hb dL_law_254 (by decide) ?_
  refine lv_iadd hx hb dL_law_255 ?_
  refine va_sld hx hb hX hbl hbA hS (hin 1 (by decide)) dL_law_256 ?_
  refine zl_call (E := (adr, D, cA, zr_shp, AR)) (E2 := (adc, D, cA, zc_shp, AC)) (own := RL) (k := 0) (G := g_X5_type N) (r := (v, ν1)) [.inl (xs (x3 + 1).toNatClampNeg)] hx hb hml hl.1 hown hts hK2 hWr hWc hS hAR hd2 (m_X5_type N) hg zr_ok rfl (fun w hw => by revert w; simp [zk_w]) rfl zw_635 ⟨Nat.le_of_ble_eq_true rfl, Nat.le_of_ble_eq_true rfl⟩ ⟨Nat.le_of_ble_eq_true rfl, Nat.le_of_ble_eq_true rfl⟩ rfl (Nat.le_of_ble_eq_true rfl) dL_law_257 (fun H locs hWr hWc hS => ?_)
  refine lv_icmp_eq (tgt := 1194) hx hb dL_law_260 (by decide) (fun _ => ?_) (fun hc => absurd rfl hc)
  exact kk μ1 ν1 H locs hR1 hWc hWr hS
set_option maxRecDepth 100000 in
set_option maxHeartbeats 4000000 in
theorem zlc_3 {p : Program} {e : Env} {s : State} {m : MethodId} {below : List Frame} {meth : Method} {c : Code} {l : Launch} {b L : Nat} {xs : Nat → Int32} (C0 : lw_At p s m meth c b L xs) {N : Nat} {Rel : ZM → ZM → Prop} {adc adr : Nat → Nat} {D : va_G} {cA : Nat → ClassId} {AC AR : Nat → Prop} (hK1 : zk_K (adc, D, cA, zc_shp, AC) s) (hK2 : zk_K (adr, D, cA, zr_shp, AR) s) (hAC : ∀ q, AC q → s.heap.size ≤ q) (hAR : ∀ q, AR q → s.heap.size ≤ q) (hd1 : ∀ q, AR q → ¬ AC q) (hd2 : ∀ q, AC q → ¬ AR q) (hk : zl_ok Rel (f_X4_town N 0) (f_X5_town N 0)) {μ ν : ZM} {H : Heap} {locs : List Loc} {ls : Array Slot} {x3 : Int32} (hin : ∀ k : Nat, k < 7 → vp_in (x3 + nI k) L) (hR : Rel μ ν) (hWc : zk_W (adc, D, cA, zc_shp, AC) μ H) (hWr : zk_W (adr, D, cA, zr_shp, AR) ν H) (hS : va_S (fun q => s.heap.size ≤ q) s.heap H locs) (hl : lv_has ls 4 [(0, .ref b), (1, .ref (adc 0)), (2, .ref (adr 0)), (3, .int x3)])
    (kk : ∀ (μ1 ν1 : ZM) (H : Heap) (locs : List Loc), Rel μ1 ν1 → zk_W (adc, D, cA, zc_shp, AC) μ1 H → zk_W (adr, D, cA, zr_shp, AR) ν1 H → va_S (fun q => s.heap.size ≤ q) s.heap H locs → W p l e room_1 s m #[Value.ref b] below meth c H locs 123 1751 (lw_Z below #[Value.ref b] s) (F0 m 1194 ls [])) : W p l e room_1 s m #[Value.ref b] below meth c H locs 123 1751 (lw_Z below #[Value.ref b] s) (F0 m 265 ls []) := by
  obtain ⟨hx, hb, hr, hml, hown, hts0, hX, hbl, hlocks, hgv⟩ := id C0
  have hts : ∀ w ∈ zk_T, w.before #[Value.ref b] s = true := fun w hw => hts0 w (List.mem_filter.mp hw).1
  have hbA : ¬ (fun q : Nat => s.heap.size ≤ q) b := Nat.not_le.mpr hbl
  obtain ⟨v, μ1, ν1, hf, hg, hR1⟩ := hk μ ν hR
  refine lv_aload_n hx hb dL_law_265 rfl (lv_at hl 1 rfl) ?_
  refine zl_call (E := (adc, D, cA, zc_shp, AC)) (E2 := (adr, D, cA, zr_shp, AR)) (own := RL) (k := 0) (G := g_X4_town N) (r := (v, μ1)) [] hx hb hml hl.1 hown hts hK1 hWc hWr hS hAC hd1 (m_X4_town N) hf zc_ok rfl (fun w hw => by revert w; simp [zk_w]) rfl zw_226 ⟨Nat.le_of_ble_eq_true rfl, Nat.le_of_ble_eq_true rfl⟩ ⟨Nat.le_of_ble_eq_true rfl, Nat.le_of_ble_eq_true rfl⟩ rfl (Nat.le_of_ble_eq_true rfl) dL_law_266 (fun H locs hWc hWr hS => ?_)
  refine lv_aload_n hx hb dL_law_269 rfl (lv_at hl 2 rfl) ?_
  refine zl_call (E := (adr, D, cA, zr_shp, AR)) (E2 := (adc, D, cA, zc_shp, AC)) (own := RL) (k := 0) (G := g_X5_town N) (r := (v, ν1)) [] hx hb hml hl.1 hown hts hK2 hWr hWc hS hAR hd2 (m_X5_town N) hg zr_ok rfl (fun w hw => by revert w; simp [zk_w]) rfl zw_639 ⟨Nat.le_of_ble_eq_true rfl, Nat.le_of_ble_eq_true rfl⟩ ⟨Nat.le_of_ble_eq_true rfl, Nat.le_of_ble_eq_true rfl⟩ rfl (Nat.le_of_ble_eq_true rfl) dL_law_270 (fun H locs hWr hWc hS => ?_)
  refine lv_icmp_eq (tgt := 1194) hx hb dL_law_273 (by decide) (fun _ => ?_) (fun hc => absurd rfl hc)
  exact kk μ1 ν1 H locs hR1 hWc hWr hS
set_option maxRecDepth 100000 in
set_option maxHeartbeats 4000000 in
theorem zlc_4 {p : Program} {e : Env} {s : State} {m : MethodId} {below : List Frame} {meth : Method} {c : Code} {l : Launch} {b L : Nat} {xs : Nat → Int32} (C0 : lw_At p s m meth c b L xs) {N : Nat} {Rel : ZM → ZM → Prop} {adc adr : Nat → Nat} {D : va_G} {cA : Nat → ClassId} {AC AR : Nat → Prop} (hK1 : zk_K (adc, D, cA, zc_shp, AC) s) (hK2 : zk_K (adr, D, cA, zr_shp, AR) s) (hAC : ∀ q, AC q → s.heap.size ≤ q) (hAR : ∀ q, AR q → s.heap.size ≤ q) (hd1 : ∀ q, AR q → ¬ AC q) (hd2 : ∀ q, AC q → ¬ AR q) (hk : ∀ (a : Int32), zl_ok Rel (f_X4_count N 0 a) (f_X5_count N 0 a)) {μ ν : ZM} {H : Heap} {locs : List Loc} {ls : Array Slot} {x3 : Int32} (hin : ∀ k : Nat, k < 7 → vp_in (x3 + nI k) L) (hR : Rel μ ν) (hWc : zk_W (adc, D, cA, zc_shp, AC) μ H) (hWr : zk_W (adr, D, cA, zr_shp, AR) ν H) (hS : va_S (fun q => s.heap.size ≤ q) s.heap H locs) (hl : lv_has ls 4 [(0, .ref b), (1, .ref (adc 0)), (2, .ref (adr 0)), (3, .int x3)])
    (kk : ∀ (μ1 ν1 : ZM) (H : Heap) (locs : List Loc), Rel μ1 ν1 → zk_W (adc, D, cA, zc_shp, AC) μ1 H → zk_W (adr, D, cA, zr_shp, AR) ν1 H → va_S (fun q => s.heap.size ≤ q) s.heap H locs → W p l e room_1 s m #[Value.ref b] below meth c H locs 123 1751 (lw_Z below #[Value.ref b] s) (F0 m 1194 ls [])) : W p l e room_1 s m #[Value.ref b] below meth c H locs 123 1751 (lw_Z below #[Value.ref b] s) (F0 m 278 ls []) := by
  obtain ⟨hx, hb, hr, hml, hown, hts0, hX, hbl, hlocks, hgv⟩ := id C0
  have hts : ∀ w ∈ zk_T, w.before #[Value.ref b] s = true := fun w hw => hts0 w (List.mem_filter.mp hw).1
  have hbA : ¬ (fun q : Nat => s.heap.size ≤ q) b := Nat.not_le.mpr hbl
  obtain ⟨v, μ1, ν1, hf, hg, hR1⟩ := hk (xs (x3 + 1).toNatClampNeg) μ ν hR
  refine lv_aload_n hx hb dL_law_278 rfl (lv_at hl 1 rfl) ?_
  refine lv_aload_n hx hb dL_law_279 rfl (lv_at hl 0 rfl) ?_
  refine lv_iload_n hx hb dL_law_280 rfl (lv_at hl 3 rfl) ?_
  refine lv_iconst (v := 1) hx hb dL_law_281 (by decide) ?_
  refine lv_iadd hx hb dL_law_282 ?_
  refine va_sld hx hb hX hbl hbA hS (hin 1 (by decide)) dL_law_283 ?_
  refine zl_call (E := (adc, D, cA, zc_shp, AC)) (E2 := (adr, D, cA, zr_shp, AR)) (own := RL) (k := 0) (G := g_X4_count N) (r := (v, μ1)) [.inl (xs (x3 + 1).toNatClampNeg)] hx hb hml hl.1 hown hts hK1 hWc hWr hS hAC hd1 (m_X4_count N) hf zc_ok rfl (fun w hw => by revert w; simp [zk_w]) rfl zw_276 ⟨Nat.le_of_ble_eq_true rfl, Nat.le_of_ble_eq_true rfl⟩ ⟨Nat.le_of_ble_eq_true rfl, Nat.le_of_ble_eq_true rfl⟩ rfl (Nat.le_of_ble_eq_true rfl) dL_law_284 (fun H locs hWc hWr hS => ?_)
  refine lv_aload_n hx hb dL_law_287 rfl (lv_at hl 2 rfl) ?_
  refine lv_aload_n hx hb dL_law_288 rfl (lv_at hl 0 rfl) ?_
  refine lv_iload_n hx hb dL_law_289 rfl (lv_at hl 3 rfl) ?_
  refine lv_iconst (v := 1) hx hb dL_law_290 (by decide) ?_
  refine lv_iadd hx hb dL_law_291 ?_
  refine va_sld hx hb hX hbl hbA hS (hin 1 (by decide)) dL_law_292 ?_
  refine zl_call (E := (adr, D, cA, zr_shp, AR)) (E2 := (adc, D, cA, zc_shp, AC)) (own := RL) (k := 0) (G := g_X5_count N) (r := (v, ν1)) [.inl (xs (x3 + 1).toNatClampNeg)] hx hb hml hl.1 hown hts hK2 hWr hWc hS hAR hd2 (m_X5_count N) hg zr_ok rfl (fun w hw => by revert w; simp [zk_w]) rfl zw_663 ⟨Nat.le_of_ble_eq_true rfl, Nat.le_of_ble_eq_true rfl⟩ ⟨Nat.le_of_ble_eq_true rfl, Nat.le_of_ble_eq_true rfl⟩ rfl (Nat.le_of_ble_eq_true rfl) dL_law_293 (fun H locs hWr hWc hS => ?_)
  refine lv_icmp_eq (tgt := 1194) hx hb dL_law_296 (by decide) (fun _ => ?_) (fun hc => absurd rfl hc)
  exact kk μ1 ν1 H locs hR1 hWc hWr hS
set_option maxRecDepth 100000 in
set_option maxHeartbeats 4000000 in
theorem zlc_5 {p : Program} {e : Env} {s : State} {m : MethodId} {below : List Frame} {meth : Method} {c : Code} {l : Launch} {b L : Nat} {xs : Nat → Int32} (C0 : lw_At p s m meth c b L xs) {N : Nat} {Rel : ZM → ZM → Prop} {adc adr : Nat → Nat} {D : va_G} {cA : Nat → ClassId} {AC AR : Nat → Prop} (hK1 : zk_K (adc, D, cA, zc_shp, AC) s) (hK2 : zk_K (adr, D, cA, zr_shp, AR) s) (hAC : ∀ q, AC q → s.heap.size ≤ q) (hAR : ∀ q, AR q → s.heap.size ≤ q) (hd1 : ∀ q, AR q → ¬ AC q) (hd2 : ∀ q, AC q → ¬ AR q) (hk : ∀ (a : Int32), zl_ok Rel (f_X4_years N 0 a) (f_X5_years N 0 a)) {μ ν : ZM} {H : Heap} {locs : List Loc} {ls : Array Slot} {x3 : Int32} (hin : ∀ k : Nat, k < 7 → vp_in (x3 + nI k) L) (hR : Rel μ ν) (hWc : zk_W (adc, D, cA, zc_shp, AC) μ H) (hWr : zk_W (adr, D, cA, zr_shp, AR) ν H) (hS : va_S (fun q => s.heap.size ≤ q) s.heap H locs) (hl : lv_has ls 4 [(0, .ref b), (1, .ref (adc 0)), (2, .ref (adr 0)), (3, .int x3)])
    (kk : ∀ (μ1 ν1 : ZM) (H : Heap) (locs : List Loc), Rel μ1 ν1 → zk_W (adc, D, cA, zc_shp, AC) μ1 H → zk_W (adr, D, cA, zr_shp, AR) ν1 H → va_S (fun q => s.heap.size ≤ q) s.heap H locs → W p l e room_1 s m #[Value.ref b] below meth c H locs 123 1751 (lw_Z below #[Value.ref b] s) (F0 m 1194 ls [])) : W p l e room_1 s m #[Value.ref b] below meth c H locs 123 1751 (lw_Z below #[Value.ref b] s) (F0 m 301 ls []) := by
  obtain ⟨hx, hb, hr, hml, hown, hts0, hX, hbl, hlocks, hgv⟩ := id C0
  have hts : ∀ w ∈ zk_T, w.before #[Value.ref b] s = true := fun w hw => hts0 w (List.mem_filter.mp hw).1
  have hbA : ¬ (fun q : Nat => s.heap.size ≤ q) b := Nat.not_le.mpr hbl
  obtain ⟨v, μ1, ν1, hf, hg, hR1⟩ := hk (xs (x3 + 1).toNatClampNeg) μ ν hR
  refine lv_aload_n hx hb dL_law_301 rfl (lv_at hl 1 rfl) ?_
  refine lv_aload_n hx hb dL_law_302 rfl (lv_at hl 0 rfl) ?_
  refine lv_iload_n hx hb dL_law_303 rfl (lv_at hl 3 rfl) ?_
  refine lv_iconst (v := 1) hx hb dL_law_304 (by decide) ?_
  refine lv_iadd hx hb dL_law_305 ?_
  refine va_sld hx hb hX hbl hbA hS (hin 1 (by decide)) dL_law_306 ?_
  refine zl_call (E := (adc, D, cA, zc_shp, AC)) (E2 := (adr, D, cA, zr_shp, AR)) (own := RL) (k := 0) (G := g_X4_years N) (r := (v, μ1)) [.inl (xs (x3 + 1).toNatClampNeg)] hx hb hml hl.1 hown hts hK1 hWc hWr hS hAC hd1 (m_X4_years N) hf zc_ok rfl (fun w hw => by revert w; simp [zk_w]) rfl zw_286 ⟨Nat.le_of_ble_eq_true rfl, Nat.le_of_ble_eq_true rfl⟩ ⟨Nat.le_of_ble_eq_true rfl, Nat.le_of_ble_eq_true rfl⟩ rfl (Nat.le_of_ble_eq_true rfl) dL_law_307 (fun H locs hWc hWr hS => ?_)
  refine lv_aload_n hx hb dL_law_310 rfl (lv_at hl 2 rfl) ?_
  refine lv_aload_n hx hb dL_law_311 rfl (lv_at hl 0 rfl) ?_
  refine lv_iload_n hx hb dL_law_312 rfl (lv_at hl 3 rfl) ?_
  refine lv_iconst (v := 1) hx hb dL_law_313 (by decide) ?_
  refine lv_iadd hx hb dL_law_314 ?_
  refine va_sld hx hb hX hbl hbA hS (hin 1 (by decide)) dL_law_315 ?_
  refine zl_call (E := (adr, D, cA, zr_shp, AR)) (E2 := (adc, D, cA, zc_shp, AC)) (own := RL) (k := 0) (G := g_X5_years N) (r := (v, ν1)) [.inl (xs (x3 + 1).toNatClampNeg)] hx hb hml hl.1 hown hts hK2 hWr hWc hS hAR hd2 (m_X5_years N) hg zr_ok rfl (fun w hw => by revert w; simp [zk_w]) rfl zw_670 ⟨Nat.le_of_ble_eq_true rfl, Nat.le_of_ble_eq_true rfl⟩ ⟨Nat.le_of_ble_eq_true rfl, Nat.le_of_ble_eq_true rfl⟩ rfl (Nat.le_of_ble_eq_true rfl) dL_law_316 (fun H locs hWr hWc hS => ?_)
  refine lv_icmp_eq (tgt := 1194) hx hb dL_law_319 (by decide) (fun _ => ?_) (fun hc => absurd rfl hc)
  exact kk μ1 ν1 H locs hR1 hWc hWr hS
set_option maxRecDepth 100000 in
set_option maxHeartbeats 4000000 in
theorem zlc_6 {p : Program} {e : Env} {s : State} {m : MethodId} {below : List Frame} {meth : Method} {c : Code} {l : Launch} {b L : Nat} {xs : Nat → Int32} (C0 : lw_At p s m meth c b L xs) {N : Nat} {Rel : ZM → ZM → Prop} {adc adr : Nat → Nat} {D : va_G} {cA : Nat → ClassId} {AC AR : Nat → Prop} (hK1 : zk_K (adc, D, cA, zc_shp, AC) s) (hK2 : zk_K (adr, D, cA, zr_shp, AR) s) (hAC : ∀ q, AC q → s.heap.size ≤ q) (hAR : ∀ q, AR q → s.heap.size ≤ q) (hd1 : ∀ q, AR q → ¬ AC q) (hd2 : ∀ q, AC q → ¬ AR q) (hk : ∀ (a : Int32) (b : Int32), zl_ok Rel (f_X4_nurse N 0 a b) (f_X5_nurse N 0 a b)) {μ ν : ZM} {H : Heap} {locs : List Loc} {ls : Array Slot} {x3 : Int32} (hin : ∀ k : Nat, k < 7 → vp_in (x3 + nI k) L) (hR : Rel μ ν) (hWc : zk_W (adc, D, cA, zc_shp, AC) μ H) (hWr : zk_W (adr, D, cA, zr_shp, AR) ν H) (hS : va_S (fun q => s.heap.size ≤ q) s.heap H locs) (hl : lv_has ls 4 [(0, .ref b), (1, .ref (adc 0)), (2, .ref (adr 0)), (3, .int x3)])
    (kk : ∀ (μ1 ν1 : ZM) (H : Heap) (locs : List Loc), Rel μ1 ν1 → zk_W (adc, D, cA, zc_shp, AC) μ1 H → zk_W (adr, D, cA, zr_shp, AR) ν1 H → va_S (fun q => s.heap.size ≤ q) s.heap H locs → W p l e room_1 s m #[Value.ref b] below meth c H locs 123 1751 (lw_Z below #[Value.ref b] s) (F0 m 1194 ls [])) : W p l e room_1 s m #[Value.ref b] below meth c H locs 123 1751 (lw_Z below #[Value.ref b] s) (F0 m 324 ls []) := by
  obtain ⟨hx, hb, hr, hml, hown, hts0, hX, hbl, hlocks, hgv⟩ := id C0
  have hts : ∀ w ∈ zk_T, w.before #[Value.ref b] s = true := fun w hw => hts0 w (List.mem_filter.mp hw).1
  have hbA : ¬ (fun q : Nat => s.heap.size ≤ q) b := Nat.not_le.mpr hbl
  obtain ⟨v, μ1, ν1, hf, hg, hR1⟩ := hk (xs (x3 + 1).toNatClampNeg) (xs (x3 + 2).toNatClampNeg) μ ν hR
  refine lv_aload_n hx hb dL_law_324 rfl (lv_at hl 1 rfl) ?_
  refine lv_aload_n hx hb dL_law_325 rfl (lv_at hl 0 rfl) ?_
  refine lv_iload_n hx hb dL_law_326 rfl (lv_at hl 3 rfl) ?_
  refine lv_iconst (v := 1) hx hb dL_law_327 (by decide) ?_
  refine lv_iadd hx hb dL_law_328 ?_
  refine va_sld hx hb hX hbl hbA hS (hin 1 (by decide)) dL_law_329 ?_
  refine lv_aload_n hx hb dL_law_330 rfl (lv_at hl 0 rfl) ?_
  refine lv_iload_n hx hb dL_law_331 rfl (lv_at hl 3 rfl) ?_
  refine lv_iconst (v := 2) hx hb dL_law_332 (by decide) ?_
  refine lv_iadd hx hb dL_law_333 ?_
  refine va_sld hx hb hX hbl hbA hS (hin 2 (by decide)) dL_law_334 ?_
  refine zl_call (E := (adc, D, cA, zc_shp, AC)) (E2 := (adr, D, cA, zr_shp, AR)) (own := RL) (k := 0) (G := g_X4_nurse N) (r := (v, μ1)) [.inl (xs (x3 + 1).toNatClampNeg), .inl (xs (x3 + 2).toNatClampNeg)] hx hb hml hl.1 hown hts hK1 hWc hWr hS hAC hd1 (m_X4_nurse N) hf zc_ok rfl (fun w hw => by revert w; simp [zk_w]) rfl zw_310 ⟨Nat.le_of_ble_eq_true rfl, Nat.le_of_ble_eq_true rfl⟩ ⟨Nat.le_of_ble_eq_true rfl, Nat.le_of_ble_eq_true rfl⟩ rfl (Nat.le_of_ble_eq_true rfl) dL_law_335 (fun H locs hWc hWr hS => ?_)
  refine lv_aload_n hx hb dL_law_338 rfl (lv_at hl 2 rfl) ?_
  refine lv_aload_n hx hb dL_law_339 rfl (lv_at hl 0 rfl) ?_
  refine lv_iload_n hx hb dL_law_340 rfl (lv_at hl 3 rfl) ?_
  refine lv_iconst (v := 1) hx hb dL_law_341 (by decide) ?_
  refine lv_iadd hx hb dL_law_342 ?_
  refine va_sld hx hb hX hbl hbA hS (hin 1 (by decide)) dL_law_343 ?_
  refine lv_aload_n hx hb dL_law_344 rfl (lv_at hl 0 rfl) ?_
  refine lv_iload_n hx hb dL_law_345 rfl (lv_at hl 3 rfl) ?_
  refine lv_iconst (v := 2) hx hb dL_law_346 (by decide) ?_
  refine lv_iadd hx hb dL_law_347 ?_
  refine va_sld hx hb hX hbl hbA hS (hin 2 (by decide)) dL_law_348 ?_
  refine zl_call (E := (adr, D, cA, zr_shp, AR)) (E2 := (adc, D, cA, zc_shp, AC)) (own := RL) (k := 0) (G := g_X5_nurse N) (r := (v, ν1)) [.inl (xs (x3 + 1).toNatClampNeg), .inl (xs (x3 + 2).toNatClampNeg)] hx hb hml hl.1 hown hts hK2 hWr hWc hS hAR hd2 (m_X5_nurse N) hg zr_ok rfl (fun w hw => by revert w; simp [zk_w]) rfl zw_682 ⟨Nat.le_of_ble_eq_true rfl, Nat.le_of_ble_eq_true rfl⟩ ⟨Nat.le_of_ble_eq_true rfl, Nat.le_of_ble_eq_true rfl⟩ rfl (Nat.le_of_ble_eq_true rfl) dL_law_349 (fun H locs hWr hWc hS => ?_)
  refine lv_icmp_eq (tgt := 1194) hx hb dL_law_352 (by decide) (fun _ => ?_) (fun hc => absurd rfl hc)
  exact kk μ1 ν1 H locs hR1 hWc hWr hS
set_option maxRecDepth 100000 in
set_option maxHeartbeats 4000000 in
theorem zlc_7 {p : Program} {e : Env} {s : State} {m : MethodId} {below : List Frame} {meth : Method} {c : Code} {l : Launch} {b L : Nat} {xs : Nat → Int32} (C0 : lw_At p s m meth c b L xs) {N : Nat} {Rel : ZM → ZM → Prop} {adc adr : Nat → Nat} {D : va_G} {cA : Nat → ClassId} {AC AR : Nat → Prop} (hK1 : zk_K (adc, D, cA, zc_shp, AC) s) (hK2 : zk_K (adr, D, cA, zr_shp, AR) s) (hAC : ∀ q, AC q → s.heap.size ≤ q) (hAR : ∀ q, AR q → s.heap.size ≤ q) (hd1 : ∀ q, AR q → ¬ AC q) (hd2 : ∀ q, AC q → ¬ AR q) (hk : ∀ (a : Int32) (b : Int32), zl_ok Rel (f_X4_stir N 0 a b) (f_X5_stir N 0 a b)) {μ ν : ZM} {H : Heap} {locs : List Loc} {ls : Array Slot} {x3 : Int32} (hin : ∀ k : Nat, k < 7 → vp_in (x3 + nI k) L) (hR : Rel μ ν) (hWc : zk_W (adc, D, cA, zc_shp, AC) μ H) (hWr : zk_W (adr, D, cA, zr_shp, AR) ν H) (hS : va_S (fun q => s.heap.size ≤ q) s.heap H locs) (hl : lv_has ls 4 [(0, .ref b), (1, .ref (adc 0)), (2, .ref (adr 0)), (3, .int x3)])
    (kk : ∀ (μ1 ν1 : ZM) (H : Heap) (locs : List Loc), Rel μ1 ν1 → zk_W (adc, D, cA, zc_shp, AC) μ1 H → zk_W (adr, D, cA, zr_shp, AR) ν1 H → va_S (fun q => s.heap.size ≤ q) s.heap H locs → W p l e room_1 s m #[Value.ref b] below meth c H locs 123 1751 (lw_Z below #[Value.ref b] s) (F0 m 1194 ls [])) : W p l e room_1 s m #[Value.ref b] below meth c H locs 123 1751 (lw_Z below #[Value.ref b] s) (F0 m 357 ls []) := by
  obtain ⟨hx, hb, hr, hml, hown, hts0, hX, hbl, hlocks, hgv⟩ := id C0
  have hts : ∀ w ∈ zk_T, w.before #[Value.ref b] s = true := fun w hw => hts0 w (List.mem_filter.mp hw).1
  have hbA : ¬ (fun q : Nat => s.heap.size ≤ q) b := Nat.not_le.mpr hbl
  obtain ⟨v, μ1, ν1, hf, hg, hR1⟩ := hk (xs (x3 + 1).toNatClampNeg) (xs (x3 + 2).toNatClampNeg) μ ν hR
  refine lv_aload_n hx hb dL_law_357 rfl (lv_at hl 1 rfl) ?_
  refine lv_aload_n hx hb dL_law_358 rfl (lv_at hl 0 rfl) ?_
  refine lv_iload_n hx hb dL_law_359 rfl (lv_at hl 3 rfl) ?_
  refine lv_iconst (v := 1) hx hb dL_law_360 (by decide) ?_
  refine lv_iadd hx hb dL_law_361 ?_
  refine va_sld hx hb hX hbl hbA hS (hin 1 (by decide)) dL_law_362 ?_
  refine lv_aload_n hx hb dL_law_363 rfl (lv_at hl 0 rfl) ?_
  refine lv_iload_n hx hb dL_law_364 rfl (lv_at hl 3 rfl) ?_
  refine lv_iconst (v := 2) hx hb dL_law_365 (by decide) ?_
  refine lv_iadd hx hb dL_law_366 ?_
  refine va_sld hx hb hX hbl hbA hS (hin 2 (by decide)) dL_law_367 ?_
  refine zl_call (E := (adc, D, cA, zc_shp, AC)) (E2 := (adr, D, cA, zr_shp, AR)) (own := RL) (k := 0) (G := g_X4_stir N) (r := (v, μ1)) [.inl (xs (x3 + 1).toNatClampNeg), .inl (xs (x3 + 2).toNatClampNeg)] hx hb hml hl.1 hown hts hK1 hWc hWr hS hAC hd1 (m_X4_stir N) hf zc_ok rfl (fun w hw => by revert w; simp [zk_w]) rfl zw_318 ⟨Nat.le_of_ble_eq_true rfl, Nat.le_of_ble_eq_true rfl⟩ ⟨Nat.le_of_ble_eq_true rfl, Nat.le_of_ble_eq_true rfl⟩ rfl (Nat.le_of_ble_eq_true rfl) dL_law_368 (fun H locs hWc hWr hS => ?_)
  refine lv_aload_n hx hb dL_law_371 rfl (lv_at hl 2 rfl) ?_
  refine lv_aload_n hx hb dL_law_372 rfl (lv_at hl 0 rfl) ?_
  refine lv_iload_n hx hb dL_law_373 rfl (lv_at hl 3 rfl) ?_
  refine lv_iconst (v := 1) hx hb dL_law_374 (by decide) ?_
  refine lv_iadd hx hb dL_law_375 ?_
  refine va_sld hx hb hX hbl hbA hS (hin 1 (by decide)) dL_law_376 ?_
  refine lv_aload_n hx hb dL_law_377 rfl (lv_at hl 0 rfl) ?_
  refine lv_iload_n hx hb dL_law_378 rfl (lv_at hl 3 rfl) ?_
  refine lv_iconst (v := 2) hx hb dL_law_379 (by decide) ?_
  refine lv_iadd hx hb dL_law_380 ?_
  refine va_sld hx hb hX hbl hbA hS (hin 2 (by decide)) dL_law_381 ?_
  refine zl_call (E := (adr, D, cA, zr_shp, AR)) (E2 := (adc, D, cA, zc_shp, AC)) (own := RL) (k := 0) (G := g_X5_stir N) (r := (v, ν1)) [.inl (xs (x3 + 1).toNatClampNeg), .inl (xs (x3 + 2).toNatClampNeg)] hx hb hml hl.1 hown hts hK2 hWr hWc hS hAR hd2 (m_X5_stir N) hg zr_ok rfl (fun w hw => by revert w; simp [zk_w]) rfl zw_689 ⟨Nat.le_of_ble_eq_true rfl, Nat.le_of_ble_eq_true rfl⟩ ⟨Nat.le_of_ble_eq_true rfl, Nat.le_of_ble_eq_true rfl⟩ rfl (Nat.le_of_ble_eq_true rfl) dL_law_382 (fun H locs hWr hWc hS => ?_)
  refine lv_icmp_eq (tgt := 1194) hx hb dL_law_385 (by decide) (fun _ => ?_) (fun hc => absurd rfl hc)
  exact kk μ1 ν1 H locs hR1 hWc hWr hS
set_option maxRecDepth 100000 in
set_option maxHeartbeats 4000000 in
theorem zlc_8 {p : Program} {e : Env} {s : State} {m : MethodId} {below : List Frame} {meth : Method} {c : Code} {l : Launch} {b L : Nat} {xs : Nat → Int32} (C0 : lw_At p s m meth c b L xs) {N : Nat} {Rel : ZM → ZM → Prop} {adc adr : Nat → Nat} {D : va_G} {cA : Nat → ClassId} {AC AR : Nat → Prop} (hK1 : zk_K (adc, D, cA, zc_shp, AC) s) (hK2 : zk_K (adr, D, cA, zr_shp, AR) s) (hAC : ∀ q, AC q → s.heap.size ≤ q) (hAR : ∀ q, AR q → s.heap.size ≤ q) (hd1 : ∀ q, AR q → ¬ AC q) (hd2 : ∀ q, AC q → ¬ AR q) (hk : ∀ (a : Int32), zl_ok Rel (f_X4_wed N 0 a) (f_X5_wed N 0 a)) {μ ν : ZM} {H : Heap} {locs : List Loc} {ls : Array Slot} {x3 : Int32} (hin : ∀ k : Nat, k < 7 → vp_in (x3 + nI k) L) (hR : Rel μ ν) (hWc : zk_W (adc, D, cA, zc_shp, AC) μ H) (hWr : zk_W (adr, D, cA, zr_shp, AR) ν H) (hS : va_S (fun q => s.heap.size ≤ q) s.heap H locs) (hl : lv_has ls 4 [(0, .ref b), (1, .ref (adc 0)), (2, .ref (adr 0)), (3, .int x3)])
    (kk : ∀ (μ1 ν1 : ZM) (H : Heap) (locs : List Loc), Rel μ1 ν1 → zk_W (adc, D, cA, zc_shp, AC) μ1 H → zk_W (adr, D, cA, zr_shp, AR) ν1 H → va_S (fun q => s.heap.size ≤ q) s.heap H locs → W p l e room_1 s m #[Value.ref b] below meth c H locs 123 1751 (lw_Z below #[Value.ref b] s) (F0 m 1194 ls [])) : W p l e room_1 s m #[Value.ref b] below meth c H locs 123 1751 (lw_Z below #[Value.ref b] s) (F0 m 390 ls []) := by
  obtain ⟨hx, hb, hr, hml, hown, hts0, hX, hbl, hlocks, hgv⟩ := id C0
  have hts : ∀ w ∈ zk_T, w.before #[Value.ref b] s = true := fun w hw => hts0 w (List.mem_filter.mp hw).1
  have hbA : ¬ (fun q : Nat => s.heap.size ≤ q) b := Nat.not_le.mpr hbl
  obtain ⟨v, μ1, ν1, hf, hg, hR1⟩ := hk (xs (x3 + 1).toNatClampNeg) μ ν hR
  refine lv_aload_n hx hb dL_law_390 rfl (lv_at hl 1 rfl) ?_
  refine lv_aload_n hx hb dL_law_391 rfl (lv_at hl 0 rfl) ?_
  refine lv_iload_n hx hb dL_law_392 rfl (lv_at hl 3 rfl) ?_
  refine lv_iconst (v := 1) hx hb dL_law_393 (by decide) ?_
  refine lv_iadd hx hb dL_law_394 ?_
  refine va_sld hx hb hX hbl hbA hS (hin 1 (by decide)) dL_law_395 ?_
  refine zl_call (E := (adc, D, cA, zc_shp, AC)) (E2 := (adr, D, cA, zr_shp, AR)) (own := RL) (k := 0) (G := g_X4_wed N) (r := (v, μ1)) [.inl (xs (x3 + 1).toNatClampNeg)] hx hb hml hl.1 hown hts hK1 hWc hWr hS hAC hd1 (m_X4_wed N) hf zc_ok rfl (fun w hw => by revert w; simp [zk_w]) rfl zw_323 ⟨Nat.le_of_ble_eq_true rfl, Nat.le_of_ble_eq_true rfl⟩ ⟨Nat.le_of_ble_eq_true rfl, Nat.le_of_ble_eq_true rfl⟩ rfl (Nat.le_of_ble_eq_true rfl) dL_law_396 (fun H locs hWc hWr hS => ?_)
  refine lv_aload_n hx hb dL_law_399 rfl (lv_at hl 2 rfl) ?_
  refine lv_aload_n hx hb dL_law_400 rfl (lv_at hl 0 rfl) ?_
  refine lv_iload_n hx hb dL_law_401 rfl (lv_at hl 3 rfl) ?_
  refine lv_iconst (v := 1) hx hb dL_law_402 (by decide) ?_
  refine lv_iadd hx hb dL_law_403 ?_
  refine va_sld hx hb hX hbl hbA hS (hin 1 (by decide)) dL_law_404 ?_
  refine zl_call (E := (adr, D, cA, zr_shp, AR)) (E2 := (adc, D, cA, zc_shp, AC)) (own := RL) (k := 0) (G := g_X5_wed N) (r := (v, ν1)) [.inl (xs (x3 + 1).toNatClampNeg)] hx hb hml hl.1 hown hts hK2 hWr hWc hS hAR hd2 (m_X5_wed N) hg zr_ok rfl (fun w hw => by revert w; simp [zk_w]) rfl zw_696 ⟨Nat.le_of_ble_eq_true rfl, Nat.le_of_ble_eq_true rfl⟩ ⟨Nat.le_of_ble_eq_true rfl, Nat.le_of_ble_eq_true rfl⟩ rfl (Nat.le_of_ble_eq_true rfl) dL_law_405 (fun H locs hWr hWc hS => ?_)
  refine lv_icmp_eq (tgt := 1194) hx hb dL_law_408 (by decide) (fun _ => ?_) (fun hc => absurd rfl hc)
  exact kk μ1 ν1 H locs hR1 hWc hWr hS
set_option maxRecDepth 100000 in
set_option maxHeartbeats 4000000 in
theorem zlc_9 {p : Program} {e : Env} {s : State} {m : MethodId} {below : List Frame} {meth : Method} {c : Code} {l : Launch} {b L : Nat} {xs : Nat → Int32} (C0 : lw_At p s m meth c b L xs) {N : Nat} {Rel : ZM → ZM → Prop} {adc adr : Nat → Nat} {D : va_G} {cA : Nat → ClassId} {AC AR : Nat → Prop} (hK1 : zk_K (adc, D, cA, zc_shp, AC) s) (hK2 : zk_K (adr, D, cA, zr_shp, AR) s) (hAC : ∀ q, AC q → s.heap.size ≤ q) (hAR : ∀ q, AR q → s.heap.size ≤ q) (hd1 : ∀ q, AR q → ¬ AC q) (hd2 : ∀ q, AC q → ¬ AR q) (hk : ∀ (a : Int32), zl_ok Rel (f_X4_drift N 0 a) (f_X5_drift N 0 a)) {μ ν : ZM} {H : Heap} {locs : List Loc} {ls : Array Slot} {x3 : Int32} (hin : ∀ k : Nat, k < 7 → vp_in (x3 + nI k) L) (hR : Rel μ ν) (hWc : zk_W (adc, D, cA, zc_shp, AC) μ H) (hWr : zk_W (adr, D, cA, zr_shp, AR) ν H) (hS : va_S (fun q => s.heap.size ≤ q) s.heap H locs) (hl : lv_has ls 4 [(0, .ref b), (1, .ref (adc 0)), (2, .ref (adr 0)), (3, .int x3)])
    (kk : ∀ (μ1 ν1 : ZM) (H : Heap) (locs : List Loc), Rel μ1 ν1 → zk_W (adc, D, cA, zc_shp, AC) μ1 H → zk_W (adr, D, cA, zr_shp, AR) ν1 H → va_S (fun q => s.heap.size ≤ q) s.heap H locs → W p l e room_1 s m #[Value.ref b] below meth c H locs 123 1751 (lw_Z below #[Value.ref b] s) (F0 m 1194 ls [])) : W p l e room_1 s m #[Value.ref b] below meth c H locs 123 1751 (lw_Z below #[Value.ref b] s) (F0 m 413 ls []) := by
  obtain ⟨hx, hb, hr, hml, hown, hts0, hX, hbl, hlocks, hgv⟩ := id C0
  have hts : ∀ w ∈ zk_T, w.before #[Value.ref b] s = true := fun w hw => hts0 w (List.mem_filter.mp hw).1
  have hbA : ¬ (fun q : Nat => s.heap.size ≤ q) b := Nat.not_le.mpr hbl
  obtain ⟨v, μ1, ν1, hf, hg, hR1⟩ := hk (xs (x3 + 1).toNatClampNeg) μ ν hR
  refine lv_aload_n hx hb dL_law_413 rfl (lv_at hl 1 rfl) ?_
  refine lv_aload_n hx hb dL_law_414 rfl (lv_at hl 0 rfl) ?_
  refine lv_iload_n hx hb dL_law_415 rfl (lv_at hl 3 rfl) ?_
  refine lv_iconst (v := 1) hx hb dL_law_416 (by decide) ?_
  refine lv_iadd hx hb dL_law_417 ?_
  refine va_sld hx hb hX hbl hbA hS (hin 1 (by decide)) dL_law_418 ?_
  refine zl_call (E := (adc, D, cA, zc_shp, AC)) (E2 := (adr, D, cA, zr_shp, AR)) (own := RL) (k := 0) (G := g_X4_drift N) (r := (v, μ1)) [.inl (xs (x3 + 1).toNatClampNeg)] hx hb hml hl.1 hown hts hK1 hWc hWr hS hAC hd1 (m_X4_drift N) hf zc_ok rfl (fun w hw => by revert w; simp [zk_w]) rfl zw_331 ⟨Nat.le_of_ble_eq_true rfl, Nat.le_of_ble_eq_true rfl⟩ ⟨Nat.le_of_ble_eq_true rfl, Nat.le_of_ble_eq_true rfl⟩ rfl (Nat.le_of_ble_eq_true rfl) dL_law_419 (fun H locs hWc hWr hS => ?_)
  refine lv_aload_n hx hb dL_law_422 rfl (lv_at hl 2 rfl) ?_
  refine lv_aload_n hx hb dL_law_423 rfl (lv_at hl 0 rfl) ?_
  refine lv_iload_n hx hb dL_law_424 rfl (lv_at hl 3 rfl) ?_
  refine lv_iconst (v := 1) hx hb dL_law_425 (by decide) ?_
  refine lv_iadd hx hb dL_law_426 ?_
  refine va_sld hx hb hX hbl hbA hS (hin 1 (by decide)) dL_law_427 ?_
  refine zl_call (E := (adr, D, cA, zr_shp, AR)) (E2 := (adc, D, cA, zc_shp, AC)) (own := RL) (k := 0) (G := g_X5_drift N) (r := (v, ν1)) [.inl (xs (x3 + 1).toNatClampNeg)] hx hb hml hl.1 hown hts hK2 hWr hWc hS hAR hd2 (m_X5_drift N) hg zr_ok rfl (fun w hw => by revert w; simp [zk_w]) rfl zw_703 ⟨Nat.le_of_ble_eq_true rfl, Nat.le_of_ble_eq_true rfl⟩ ⟨Nat.le_of_ble_eq_true rfl, Nat.le_of_ble_eq_true rfl⟩ rfl (Nat.le_of_ble_eq_true rfl) dL_law_428 (fun H locs hWr hWc hS => ?_)
  refine lv_icmp_eq (tgt := 1194) hx hb dL_law_431 (by decide) (fun _ => ?_) (fun hc => absurd rfl hc)
  exact kk μ1 ν1 H locs hR1 hWc hWr hS
set_option maxRecDepth 100000 in
set_option maxHeartbeats 4000000 in
theorem zlc_10 {p : Program} {e : Env} {s : State} {m : MethodId} {below : List Frame} {meth : Method} {c : Code} {l : Launch} {b L : Nat} {xs : Nat → Int32} (C0 : lw_At p s m meth c b L xs) {N : Nat} {Rel : ZM → ZM → Prop} {adc adr : Nat → Nat} {D : va_G} {cA : Nat → ClassId} {AC AR : Nat → Prop} (hK1 : zk_K (adc, D, cA, zc_shp, AC) s) (hK2 : zk_K (adr, D, cA, zr_shp, AR) s) (hAC : ∀ q, AC q → s.heap.size ≤ q) (hAR : ∀ q, AR q → s.heap.size ≤ q) (hd1 : ∀ q, AR q → ¬ AC q) (hd2 : ∀ q, AC q → ¬ AR q) (hk : zl_ok Rel (f_X4_undo N 0) (f_X5_undo N 0)) {μ ν : ZM} {H : Heap} {locs : List Loc} {ls : Array Slot} {x3 : Int32} (hin : ∀ k : Nat, k < 7 → vp_in (x3 + nI k) L) (hR : Rel μ ν) (hWc : zk_W (adc, D, cA, zc_shp, AC) μ H) (hWr : zk_W (adr, D, cA, zr_shp, AR) ν H) (hS : va_S (fun q => s.heap.size ≤ q) s.heap H locs) (hl : lv_has ls 4 [(0, .ref b), (1, .ref (adc 0)), (2, .ref (adr 0)), (3, .int x3)])
    (kk : ∀ (μ1 ν1 : ZM) (H : Heap) (locs : List Loc), Rel μ1 ν1 → zk_W (adc, D, cA, zc_shp, AC) μ1 H → zk_W (adr, D, cA, zr_shp, AR) ν1 H → va_S (fun q => s.heap.size ≤ q) s.heap H locs → W p l e room_1 s m #[Value.ref b] below meth c H locs 123 1751 (lw_Z below #[Value.ref b] s) (F0 m 1194 ls [])) : W p l e room_1 s m #[Value.ref b] below meth c H locs 123 1751 (lw_Z below #[Value.ref b] s) (F0 m 436 ls []) := by
  obtain ⟨hx, hb, hr, hml, hown, hts0, hX, hbl, hlocks, hgv⟩ := id C0
  have hts : ∀ w ∈ zk_T, w.before #[Value.ref b] s = true := fun w hw => hts0 w (List.mem_filter.mp hw).1
  have hbA : ¬ (fun q : Nat => s.heap.size ≤ q) b := Nat.not_le.mpr hbl
  obtain ⟨v, μ1, ν1, hf, hg, hR1⟩ := hk μ ν hR
  refine lv_aload_n hx hb dL_law_436 rfl (lv_at hl 1 rfl) ?_
  refine zl_call (E := (adc, D, cA, zc_shp, AC)) (E2 := (adr, D, cA, zr_shp, AR)) (own := RL) (k := 0) (G := g_X4_undo N) (r := (v, μ1)) [] hx hb hml hl.1 hown hts hK1 hWc hWr hS hAC hd1 (m_X4_undo N) hf zc_ok rfl (fun w hw => by revert w; simp [zk_w]) rfl zw_343 ⟨Nat.le_of_ble_eq_true rfl, Nat.le_of_ble_eq_true rfl⟩ ⟨Nat.le_of_ble_eq_true rfl, Nat.le_of_ble_eq_true rfl⟩ rfl (Nat.le_of_ble_eq_true rfl) dL_law_437 (fun H locs hWc hWr hS => ?_)
  refine lv_aload_n hx hb dL_law_440 rfl (lv_at hl 2 rfl) ?_
  refine zl_call (E := (adr, D, cA, zr_shp, AR)) (E2 := (adc, D, cA, zc_shp, AC)) (own := RL) (k := 0) (G := g_X5_undo N) (r := (v, ν1)) [] hx hb hml hl.1 hown hts hK2 hWr hWc hS hAR hd2 (m_X5_undo N) hg zr_ok rfl (fun w hw => by revert w; simp [zk_w]) rfl zw_711 ⟨Nat.le_of_ble_eq_true rfl, Nat.le_of_ble_eq_true rfl⟩ ⟨Nat.le_of_ble_eq_true rfl, Nat.le_of_ble_eq_true rfl⟩ rfl (Nat.le_of_ble_eq_true rfl) dL_law_441 (fun H locs hWr hWc hS => ?_)
  refine lv_icmp_eq (tgt := 1194) hx hb dL_law_444 (by decide) (fun _ => ?_) (fun hc => absurd rfl hc)
  exact kk μ1 ν1 H locs hR1 hWc hWr hS
set_option maxRecDepth 100000 in
set_option maxHeartbeats 4000000 in
theorem zlc_11 {p : Program} {e : Env} {s : State} {m : MethodId} {below : List Frame} {meth : Method} {c : Code} {l : Launch} {b L : Nat} {xs : Nat → Int32} (C0 : lw_At p s m meth c b L xs) {N : Nat} {Rel : ZM → ZM → Prop} {adc adr : Nat → Nat} {D : va_G} {cA : Nat → ClassId} {AC AR : Nat → Prop} (hK1 : zk_K (adc, D, cA, zc_shp, AC) s) (hK2 : zk_K (adr, D, cA, zr_shp, AR) s) (hAC : ∀ q, AC q → s.heap.size ≤ q) (hAR : ∀ q, AR q → s.heap.size ≤ q) (hd1 : ∀ q, AR q → ¬ AC q) (hd2 : ∀ q, AC q → ¬ AR q) (hk : ∀ (a : Int32), zl_ok Rel (f_X4_seed N 0 a) (f_X5_seed N 0 a)) {μ ν : ZM} {H : Heap} {locs : List Loc} {ls : Array Slot} {x3 : Int32} (hin : ∀ k : Nat, k < 7 → vp_in (x3 + nI k) L) (hR : Rel μ ν) (hWc : zk_W (adc, D, cA, zc_shp, AC) μ H) (hWr : zk_W (adr, D, cA, zr_shp, AR) ν H) (hS : va_S (fun q => s.heap.size ≤ q) s.heap H locs) (hl : lv_has ls 4 [(0, .ref b), (1, .ref (adc 0)), (2, .ref (adr 0)), (3, .int x3)])
    (kk : ∀ (μ1 ν1 : ZM) (H : Heap) (locs : List Loc), Rel μ1 ν1 → zk_W (adc, D, cA, zc_shp, AC) μ1 H → zk_W (adr, D, cA, zr_shp, AR) ν1 H → va_S (fun q => s.heap.size ≤ q) s.heap H locs → W p l e room_1 s m #[Value.ref b] below meth c H locs 123 1751 (lw_Z below #[Value.ref b] s) (F0 m 1194 ls [])) : W p l e room_1 s m #[Value.ref b] below meth c H locs 123 1751 (lw_Z below #[Value.ref b] s) (F0 m 449 ls []) := by
  obtain ⟨hx, hb, hr, hml, hown, hts0, hX, hbl, hlocks, hgv⟩ := id C0
  have hts : ∀ w ∈ zk_T, w.before #[Value.ref b] s = true := fun w hw => hts0 w (List.mem_filter.mp hw).1
  have hbA : ¬ (fun q : Nat => s.heap.size ≤ q) b := Nat.not_le.mpr hbl
  obtain ⟨v, μ1, ν1, hf, hg, hR1⟩ := hk (xs (x3 + 1).toNatClampNeg) μ ν hR
  refine lv_aload_n hx hb dL_law_449 rfl (lv_at hl 1 rfl) ?_
  refine lv_aload_n hx hb dL_law_450 rfl (lv_at hl 0 rfl) ?_
  refine lv_iload_n hx hb dL_law_451 rfl (lv_at hl 3 rfl) ?_
  refine lv_iconst (v := 1) hx hb dL_law_452 (by decide) ?_
  refine lv_iadd hx hb dL_law_453 ?_
  refine va_sld hx hb hX hbl hbA hS (hin 1 (by decide)) dL_law_454 ?_
  refine zl_call (E := (adc, D, cA, zc_shp, AC)) (E2 := (adr, D, cA, zr_shp, AR)) (own := RL) (k := 0) (G := g_X4_seed N) (r := (v, μ1)) [.inl (xs (x3 + 1).toNatClampNeg)] hx hb hml hl.1 hown hts hK1 hWc hWr hS hAC hd1 (m_X4_seed N) hf zc_ok rfl (fun w hw => by revert w; simp [zk_w]) rfl zw_351 ⟨Nat.le_of_ble_eq_true rfl, Nat.le_of_ble_eq_true rfl⟩ ⟨Nat.le_of_ble_eq_true rfl, Nat.le_of_ble_eq_true rfl⟩ rfl (Nat.le_of_ble_eq_true rfl) dL_law_455 (fun H locs hWc hWr hS => ?_)
  refine lv_aload_n hx hb dL_law_458 rfl (lv_at hl 2 rfl) ?_
  refine lv_aload_n hx hb dL_law_459 rfl (lv_at hl 0 rfl) ?_
  refine lv_iload_n hx hb dL_law_460 rfl (lv_at hl 3 rfl) ?_
  refine lv_iconst (v := 1) hx hb dL_law_461 (by decide) ?_
  refine lv_iadd hx hb dL_law_462 ?_
  refine va_sld hx hb hX hbl hbA hS (hin 1 (by decide)) dL_law_463 ?_
  refine zl_call (E := (adr, D, cA, zr_shp, AR)) (E2 := (adc, D, cA, zc_shp, AC)) (own := RL) (k := 0) (G := g_X5_seed N) (r := (v, ν1)) [.inl (xs (x3 + 1).toNatClampNeg)] hx hb hml hl.1 hown hts hK2 hWr hWc hS hAR hd2 (m_X5_seed N) hg zr_ok rfl (fun w hw => by revert w; simp [zk_w]) rfl zw_715 ⟨Nat.le_of_ble_eq_true rfl, Nat.le_of_ble_eq_true rfl⟩ ⟨Nat.le_of_ble_eq_true rfl, Nat.le_of_ble_eq_true rfl⟩ rfl (Nat.le_of_ble_eq_true rfl) dL_law_464 (fun H locs hWr hWc hS => ?_)
  refine lv_icmp_eq (tgt := 1194) hx hb dL_law_467 (by decide) (fun _ => ?_) (fun hc => absurd rfl hc)
  exact kk μ1 ν1 H locs hR1 hWc hWr hS
set_option maxRecDepth 100000 in
set_option maxHeartbeats 4000000 in
theorem zlc_12 {p : Program} {e : Env} {s : State} {m : MethodId} {below : List Frame} {meth : Method} {c : Code} {l : Launch} {b L : Nat} {xs : Nat → Int32} (C0 : lw_At p s m meth c b L xs) {N : Nat} {Rel : ZM → ZM → Prop} {adc adr : Nat → Nat} {D : va_G} {cA : Nat → ClassId} {AC AR : Nat → Prop} (hK1 : zk_K (adc, D, cA, zc_shp, AC) s) (hK2 : zk_K (adr, D, cA, zr_shp, AR) s) (hAC : ∀ q, AC q → s.heap.size ≤ q) (hAR : ∀ q, AR q → s.heap.size ≤ q) (hd1 : ∀ q, AR q → ¬ AC q) (hd2 : ∀ q, AC q → ¬ AR q) (hk : ∀ (a : Int32), zl_ok Rel (f_X4_keys N 0 a) (f_X5_keys N 0 a)) {μ ν : ZM} {H : Heap} {locs : List Loc} {ls : Array Slot} {x3 : Int32} (hin : ∀ k : Nat, k < 7 → vp_in (x3 + nI k) L) (hR : Rel μ ν) (hWc : zk_W (adc, D, cA, zc_shp, AC) μ H) (hWr : zk_W (adr, D, cA, zr_shp, AR) ν H) (hS : va_S (fun q => s.heap.size ≤ q) s.heap H locs) (hl : lv_has ls 4 [(0, .ref b), (1, .ref (adc 0)), (2, .ref (adr 0)), (3, .int x3)])
    (kk : ∀ (μ1 ν1 : ZM) (H : Heap) (locs : List Loc), Rel μ1 ν1 → zk_W (adc, D, cA, zc_shp, AC) μ1 H → zk_W (adr, D, cA, zr_shp, AR) ν1 H → va_S (fun q => s.heap.size ≤ q) s.heap H locs → W p l e room_1 s m #[Value.ref b] below meth c H locs 123 1751 (lw_Z below #[Value.ref b] s) (F0 m 1194 ls [])) : W p l e room_1 s m #[Value.ref b] below meth c H locs 123 1751 (lw_Z below #[Value.ref b] s) (F0 m 472 ls []) := by
  obtain ⟨hx, hb, hr, hml, hown, hts0, hX, hbl, hlocks, hgv⟩ := id C0
  have hts : ∀ w ∈ zk_T, w.before #[Value.ref b] s = true := fun w hw => hts0 w (List.mem_filter.mp hw).1
  have hbA : ¬ (fun q : Nat => s.heap.size ≤ q) b := Nat.not_le.mpr hbl
  obtain ⟨v, μ1, ν1, hf, hg, hR1⟩ := hk (xs (x3 + 1).toNatClampNeg) μ ν hR
  refine lv_aload_n hx hb dL_law_472 rfl (lv_at hl 1 rfl) ?_
  refine lv_aload_n hx hb dL_law_473 rfl (lv_at hl 0 rfl) ?_
  refine lv_iload_n hx hb dL_law_474 rfl (lv_at hl 3 rfl) ?_
  refine lv_iconst (v := 1) hx hb dL_law_475 (by decide) ?_
  refine lv_iadd hx hb dL_law_476 ?_
  refine va_sld hx hb hX hbl hbA hS (hin 1 (by decide)) dL_law_477 ?_
  refine zl_call (E := (adc, D, cA, zc_shp, AC)) (E2 := (adr, D, cA, zr_shp, AR)) (own := RL) (k := 0) (G := g_X4_keys N) (r := (v, μ1)) [.inl (xs (x3 + 1).toNatClampNeg)] hx hb hml hl.1 hown hts hK1 hWc hWr hS hAC hd1 (m_X4_keys N) hf zc_ok rfl (fun w hw => by revert w; simp [zk_w]) rfl zw_355 ⟨Nat.le_of_ble_eq_true rfl, Nat.le_of_ble_eq_true rfl⟩ ⟨Nat.le_of_ble_eq_true rfl, Nat.le_of_ble_eq_true rfl⟩ rfl (Nat.le_of_ble_eq_true rfl) dL_law_478 (fun H locs hWc hWr hS => ?_)
  refine lv_aload_n hx hb dL_law_481 rfl (lv_at hl 2 rfl) ?_
  refine lv_aload_n hx hb dL_law_482 rfl (lv_at hl 0 rfl) ?_
  refine lv_iload_n hx hb dL_law_483 rfl (lv_at hl 3 rfl) ?_
  refine lv_iconst (v := 1) hx hb dL_law_484 (by decide) ?_
  refine lv_iadd hx hb dL_law_485 ?_
  refine va_sld hx hb hX hbl hbA hS (hin 1 (by decide)) dL_law_486 ?_
  refine zl_call (E := (adr, D, cA, zr_shp, AR)) (E2 := (adc, D, cA, zc_shp, AC)) (own := RL) (k := 0) (G := g_X5_keys N) (r := (v, ν1)) [.inl (xs (x3 + 1).toNatClampNeg)] hx hb hml hl.1 hown hts hK2 hWr hWc hS hAR hd2 (m_X5_keys N) hg zr_ok rfl (fun w hw => by revert w; simp [zk_w]) rfl zw_719 ⟨Nat.le_of_ble_eq_true rfl, Nat.le_of_ble_eq_true rfl⟩ ⟨Nat.le_of_ble_eq_true rfl, Nat.le_of_ble_eq_true rfl⟩ rfl (Nat.le_of_ble_eq_true rfl) dL_law_487 (fun H locs hWr hWc hS => ?_)
  refine lv_icmp_eq (tgt := 1194) hx hb dL_law_490 (by decide) (fun _ => ?_) (fun hc => absurd rfl hc)
  exact kk μ1 ν1 H locs hR1 hWc hWr hS
set_option maxRecDepth 100000 in
set_option maxHeartbeats 4000000 in
theorem zlc_13 {p : Program} {e : Env} {s : State} {m : MethodId} {below : List Frame} {meth : Method} {c : Code} {l : Launch} {b L : Nat} {xs : Nat → Int32} (C0 : lw_At p s m meth c b L xs) {N : Nat} {Rel : ZM → ZM → Prop} {adc adr : Nat → Nat} {D : va_G} {cA : Nat → ClassId} {AC AR : Nat → Prop} (hK1 : zk_K (adc, D, cA, zc_shp, AC) s) (hK2 : zk_K (adr, D, cA, zr_shp, AR) s) (hAC : ∀ q, AC q → s.heap.size ≤ q) (hAR : ∀ q, AR q → s.heap.size ≤ q) (hd1 : ∀ q, AR q → ¬ AC q) (hd2 : ∀ q, AC q → ¬ AR q) (hk : ∀ (a : Int32) (b : Int32), zl_ok Rel (f_X4_ahead N 0 a b) (f_X5_ahead N 0 a b)) {μ ν : ZM} {H : Heap} {locs : List Loc} {ls : Array Slot} {x3 : Int32} (hin : ∀ k : Nat, k < 7 → vp_in (x3 + nI k) L) (hR : Rel μ ν) (hWc : zk_W (adc, D, cA, zc_shp, AC) μ H) (hWr : zk_W (adr, D, cA, zr_shp, AR) ν H) (hS : va_S (fun q => s.heap.size ≤ q) s.heap H locs) (hl : lv_has ls 4 [(0, .ref b), (1, .ref (adc 0)), (2, .ref (adr 0)), (3, .int x3)])
    (kk : ∀ (μ1 ν1 : ZM) (H : Heap) (locs : List Loc), Rel μ1 ν1 → zk_W (adc, D, cA, zc_shp, AC) μ1 H → zk_W (adr, D, cA, zr_shp, AR) ν1 H → va_S (fun q => s.heap.size ≤ q) s.heap H locs → W p l e room_1 s m #[Value.ref b] below meth c H locs 123 1751 (lw_Z below #[Value.ref b] s) (F0 m 1194 ls [])) : W p l e room_1 s m #[Value.ref b] below meth c H locs 123 1751 (lw_Z below #[Value.ref b] s) (F0 m 495 ls []) := by
  obtain ⟨hx, hb, hr, hml, hown, hts0, hX, hbl, hlocks, hgv⟩ := id C0
  have hts : ∀ w ∈ zk_T, w.before #[Value.ref b] s = true := fun w hw => hts0 w (List.mem_filter.mp hw).1
  have hbA : ¬ (fun q : Nat => s.heap.size ≤ q) b := Nat.not_le.mpr hbl
  obtain ⟨v, μ1, ν1, hf, hg, hR1⟩ := hk (xs (x3 + 1).toNatClampNeg) (xs (x3 + 2).toNatClampNeg) μ ν hR
  refine lv_aload_n hx hb dL_law_495 rfl (lv_at hl 1 rfl) ?_
  refine lv_aload_n hx hb dL_law_496 rfl (lv_at hl 0 rfl) ?_
  refine lv_iload_n hx hb dL_law_497 rfl (lv_at hl 3 rfl) ?_
  refine lv_iconst (v := 1) hx hb dL_law_498 (by decide) ?_
  refine lv_iadd hx hb dL_law_499 ?_
  refine va_sld hx hb hX hbl hbA hS (hin 1 (by decide)) dL_law_500 ?_
  refine lv_aload_n hx hb dL_law_501 rfl (lv_at hl 0 rfl) ?_
  refine lv_iload_n hx hb dL_law_502 rfl (lv_at hl 3 rfl) ?_
  refine lv_iconst (v := 2) hx hb dL_law_503 (by decide) ?_
  refine lv_iadd hx hb dL_law_504 ?_
  refine va_sld hx hb hX hbl hbA hS (hin 2 (by decide)) dL_law_505 ?_
  refine zl_call (E := (adc, D, cA, zc_shp, AC)) (E2 := (adr, D, cA, zr_shp, AR)) (own := RL) (k := 0) (G := g_X4_ahead N) (r := (v, μ1)) [.inl (xs (x3 + 1).toNatClampNeg), .inl (xs (x3 + 2).toNatClampNeg)] hx hb hml hl.1 hown hts hK1 hWc hWr hS hAC hd1 (m_X4_ahead N) hf zc_ok rfl (fun w hw => by revert w; simp [zk_w]) rfl zw_364 ⟨Nat.le_of_ble_eq_true rfl, Nat.le_of_ble_eq_true rfl⟩ ⟨Nat.le_of_ble_eq_true rfl, Nat.le_of_ble_eq_true rfl⟩ rfl (Nat.le_of_ble_eq_true rfl) dL_law_506 (fun H locs hWc hWr hS => ?_)
  refine lv_aload_n hx hb dL_law_509 rfl (lv_at hl 2 rfl) ?_
  refine lv_aload_n hx hb dL_law_510 rfl (lv_at hl 0 rfl) ?_
  refine lv_iload_n hx hb dL_law_511 rfl (lv_at hl 3 rfl) ?_
  refine lv_iconst (v := 1) hx hb dL_law_512 (by decide) ?_
  refine lv_iadd hx hb dL_law_513 ?_
  refine va_sld hx hb hX hbl hbA hS (hin 1 (by decide)) dL_law_514 ?_
  refine lv_aload_n hx hb dL_law_515 rfl (lv_at hl 0 rfl) ?_
  refine lv_iload_n hx hb dL_law_516 rfl (lv_at hl 3 rfl) ?_
  refine lv_iconst (v := 2) hx hb dL_law_517 (by decide) ?_
  refine lv_iadd hx hb dL_law_518 ?_
  refine va_sld hx hb hX hbl hbA hS (hin 2 (by decide)) dL_law_519 ?_
  refine zl_call (E := (adr, D, cA, zr_shp, AR)) (E2 := (adc, D, cA, zc_shp, AC)) (own := RL) (k := 0) (G := g_X5_ahead N) (r := (v, ν1)) [.inl (xs (x3 + 1).toNatClampNeg), .inl (xs (x3 + 2).toNatClampNeg)] hx hb hml hl.1 hown hts hK2 hWr hWc hS hAR hd2 (m_X5_ahead N) hg zr_ok rfl (fun w hw => by revert w; simp [zk_w]) rfl zw_731 ⟨Nat.le_of_ble_eq_true rfl, Nat.le_of_ble_eq_true rfl⟩ ⟨Nat.le_of_ble_eq_true rfl, Nat.le_of_ble_eq_true rfl⟩ rfl (Nat.le_of_ble_eq_true rfl) dL_law_520 (fun H locs hWr hWc hS => ?_)
  refine lv_icmp_eq (tgt := 1194) hx hb dL_law_523 (by decide) (fun _ => ?_) (fun hc => absurd rfl hc)
  exact kk μ1 ν1 H locs hR1 hWc hWr hS
set_option maxRecDepth 100000 in
set_option maxHeartbeats 4000000 in
theorem zlc_14 {p : Program} {e : Env} {s : State} {m : MethodId} {below : List Frame} {meth : Method} {c : Code} {l : Launch} {b L : Nat} {xs : Nat → Int32} (C0 : lw_At p s m meth c b L xs) {N : Nat} {Rel : ZM → ZM → Prop} {adc adr : Nat → Nat} {D : va_G} {cA : Nat → ClassId} {AC AR : Nat → Prop} (hK1 : zk_K (adc, D, cA, zc_shp, AC) s) (hK2 : zk_K (adr, D, cA, zr_shp, AR) s) (hAC : ∀ q, AC q → s.heap.size ≤ q) (hAR : ∀ q, AR q → s.heap.size ≤ q) (hd1 : ∀ q, AR q → ¬ AC q) (hd2 : ∀ q, AC q → ¬ AR q) (hk : ∀ (a : Int32), zl_ok Rel (f_X4_then N 0 a) (f_X5_then N 0 a)) {μ ν : ZM} {H : Heap} {locs : List Loc} {ls : Array Slot} {x3 : Int32} (hin : ∀ k : Nat, k < 7 → vp_in (x3 + nI k) L) (hR : Rel μ ν) (hWc : zk_W (adc, D, cA, zc_shp, AC) μ H) (hWr : zk_W (adr, D, cA, zr_shp, AR) ν H) (hS : va_S (fun q => s.heap.size ≤ q) s.heap H locs) (hl : lv_has ls 4 [(0, .ref b), (1, .ref (adc 0)), (2, .ref (adr 0)), (3, .int x3)])
    (kk : ∀ (μ1 ν1 : ZM) (H : Heap) (locs : List Loc), Rel μ1 ν1 → zk_W (adc, D, cA, zc_shp, AC) μ1 H → zk_W (adr, D, cA, zr_shp, AR) ν1 H → va_S (fun q => s.heap.size ≤ q) s.heap H locs → W p l e room_1 s m #[Value.ref b] below meth c H locs 123 1751 (lw_Z below #[Value.ref b] s) (F0 m 1194 ls [])) : W p l e room_1 s m #[Value.ref b] below meth c H locs 123 1751 (lw_Z below #[Value.ref b] s) (F0 m 528 ls []) := by
  obtain ⟨hx, hb, hr, hml, hown, hts0, hX, hbl, hlocks, hgv⟩ := id C0
  have hts : ∀ w ∈ zk_T, w.before #[Value.ref b] s = true := fun w hw => hts0 w (List.mem_filter.mp hw).1
  have hbA : ¬ (fun q : Nat => s.heap.size ≤ q) b := Nat.not_le.mpr hbl
  obtain ⟨v, μ1, ν1, hf, hg, hR1⟩ := hk (xs (x3 + 1).toNatClampNeg) μ ν hR
  refine lv_aload_n hx hb dL_law_528 rfl (lv_at hl 1 rfl) ?_
  refine lv_aload_n hx hb dL_law_529 rfl (lv_at hl 0 rfl) ?_
  refine lv_iload_n hx hb dL_law_530 rfl (lv_at hl 3 rfl) ?_
  refine lv_iconst (v := 1) hx hb dL_law_531 (by decide) ?_
  refine lv_iadd hx hb dL_law_532 ?_
  refine va_sld hx hb hX hbl hbA hS (hin 1 (by decide)) dL_law_533 ?_
  refine zl_call (E := (adc, D, cA, zc_shp, AC)) (E2 := (adr, D, cA, zr_shp, AR)) (own := RL) (k := 0) (G := g_X4_then N) (r := (v, μ1)) [.inl (xs (x3 + 1).toNatClampNeg)] hx hb hml hl.1 hown hts hK1 hWc hWr hS hAC hd1 (m_X4_then N) hf zc_ok rfl (fun w hw => by revert w; simp [zk_w]) rfl zw_368 ⟨Nat.le_of_ble_eq_true rfl, Nat.le_of_ble_eq_true rfl⟩ ⟨Nat.le_of_ble_eq_true rfl, Nat.le_of_ble_eq_true rfl⟩ rfl (Nat.le_of_ble_eq_true rfl) dL_law_534 (fun H locs hWc hWr hS => ?_)
  refine lv_aload_n hx hb dL_law_537 rfl (lv_at hl 2 rfl) ?_
  refine lv_aload_n hx hb dL_law_538 rfl (lv_at hl 0 rfl) ?_
  refine lv_iload_n hx hb dL_law_539 rfl (lv_at hl 3 rfl) ?_
  refine lv_iconst (v := 1) hx hb dL_law_540 (by decide) ?_
  refine lv_iadd hx hb dL_law_541 ?_
  refine va_sld hx hb hX hbl hbA hS (hin 1 (by decide)) dL_law_542 ?_
  refine zl_call (E := (adr, D, cA, zr_shp, AR)) (E2 := (adc, D, cA, zc_shp, AC)) (own := RL) (k := 0) (G := g_X5_then N) (r := (v, ν1)) [.inl (xs (x3 + 1).toNatClampNeg)] hx hb hml hl.1 hown hts hK2 hWr hWc hS hAR hd2 (m_X5_then N) hg zr_ok rfl (fun w hw => by revert w; simp [zk_w]) rfl zw_735 ⟨Nat.le_of_ble_eq_true rfl, Nat.le_of_ble_eq_true rfl⟩ ⟨Nat.le_of_ble_eq_true rfl, Nat.le_of_ble_eq_true rfl⟩ rfl (Nat.le_of_ble_eq_true rfl) dL_law_543 (fun H locs hWr hWc hS => ?_)
  refine lv_icmp_eq (tgt := 1194) hx hb dL_law_546 (by decide) (fun _ => ?_) (fun hc => absurd rfl hc)
  exact kk μ1 ν1 H locs hR1 hWc hWr hS
set_option maxRecDepth 100000 in
set_option maxHeartbeats 4000000 in
theorem zlc_15 {p : Program} {e : Env} {s : State} {m : MethodId} {below : List Frame} {meth : Method} {c : Code} {l : Launch} {b L : Nat} {xs : Nat → Int32} (C0 : lw_At p s m meth c b L xs) {N : Nat} {Rel : ZM → ZM → Prop} {adc adr : Nat → Nat} {D : va_G} {cA : Nat → ClassId} {AC AR : Nat → Prop} (hK1 : zk_K (adc, D, cA, zc_shp, AC) s) (hK2 : zk_K (adr, D, cA, zr_shp, AR) s) (hAC : ∀ q, AC q → s.heap.size ≤ q) (hAR : ∀ q, AR q → s.heap.size ≤ q) (hd1 : ∀ q, AR q → ¬ AC q) (hd2 : ∀ q, AC q → ¬ AR q) (hk : ∀ (a : Int32) (b : Int32), zl_ok Rel (f_X4_rises N 0 a b) (f_X5_rises N 0 a b)) {μ ν : ZM} {H : Heap} {locs : List Loc} {ls : Array Slot} {x3 : Int32} (hin : ∀ k : Nat, k < 7 → vp_in (x3 + nI k) L) (hR : Rel μ ν) (hWc : zk_W (adc, D, cA, zc_shp, AC) μ H) (hWr : zk_W (adr, D, cA, zr_shp, AR) ν H) (hS : va_S (fun q => s.heap.size ≤ q) s.heap H locs) (hl : lv_has ls 4 [(0, .ref b), (1, .ref (adc 0)), (2, .ref (adr 0)), (3, .int x3)])
    (kk : ∀ (μ1 ν1 : ZM) (H : Heap) (locs : List Loc), Rel μ1 ν1 → zk_W (adc, D, cA, zc_shp, AC) μ1 H → zk_W (adr, D, cA, zr_shp, AR) ν1 H → va_S (fun q => s.heap.size ≤ q) s.heap H locs → W p l e room_1 s m #[Value.ref b] below meth c H locs 123 1751 (lw_Z below #[Value.ref b] s) (F0 m 1194 ls [])) : W p l e room_1 s m #[Value.ref b] below meth c H locs 123 1751 (lw_Z below #[Value.ref b] s) (F0 m 551 ls []) := by
  obtain ⟨hx, hb, hr, hml, hown, hts0, hX, hbl, hlocks, hgv⟩ := id C0
  have hts : ∀ w ∈ zk_T, w.before #[Value.ref b] s = true := fun w hw => hts0 w (List.mem_filter.mp hw).1
  have hbA : ¬ (fun q : Nat => s.heap.size ≤ q) b := Nat.not_le.mpr hbl
  obtain ⟨v, μ1, ν1, hf, hg, hR1⟩ := hk (xs (x3 + 1).toNatClampNeg) (xs (x3 + 2).toNatClampNeg) μ ν hR
  refine lv_aload_n hx hb dL_law_551 rfl (lv_at hl 1 rfl) ?_
  refine lv_aload_n hx hb dL_law_552 rfl (lv_at hl 0 rfl) ?_
  refine lv_iload_n hx hb dL_law_553 rfl (lv_at hl 3 rfl) ?_
  refine lv_iconst (v := 1) hx hb dL_law_554 (by decide) ?_
  refine lv_iadd hx hb dL_law_555 ?_
  refine va_sld hx hb hX hbl hbA hS (hin 1 (by decide)) dL_law_556 ?_
  refine lv_aload_n hx hb dL_law_557 rfl (lv_at hl 0 rfl) ?_
  refine lv_iload_n hx hb dL_law_558 rfl (lv_at hl 3 rfl) ?_
  refine lv_iconst (v := 2) hx hb dL_law_559 (by decide) ?_
  refine lv_iadd hx hb dL_law_560 ?_
  refine va_sld hx hb hX hbl hbA hS (hin 2 (by decide)) dL_law_561 ?_
  refine zl_call (E := (adc, D, cA, zc_shp, AC)) (E2 := (adr, D, cA, zr_shp, AR)) (own := RL) (k := 0) (G := g_X4_rises N) (r := (v, μ1)) [.inl (xs (x3 + 1).toNatClampNeg), .inl (xs (x3 + 2).toNatClampNeg)] hx hb hml hl.1 hown hts hK1 hWc hWr hS hAC hd1 (m_X4_rises N) hf zc_ok rfl (fun w hw => by revert w; simp [zk_w]) rfl zw_372 ⟨Nat.le_of_ble_eq_true rfl, Nat.le_of_ble_eq_true rfl⟩ ⟨Nat.le_of_ble_eq_true rfl, Nat.le_of_ble_eq_true rfl⟩ rfl (Nat.le_of_ble_eq_true rfl) dL_law_562 (fun H locs hWc hWr hS => ?_)
  refine lv_aload_n hx hb dL_law_565 rfl (lv_at hl 2 rfl) ?_
  refine lv_aload_n hx hb dL_law_566 rfl (lv_at hl 0 rfl) ?_
  refine lv_iload_n hx hb dL_law_567 rfl (lv_at hl 3 rfl) ?_
  refine lv_iconst (v := 1) hx hb dL_law_568 (by decide) ?_
  refine lv_iadd hx hb dL_law_569 ?_
  refine va_sld hx hb hX hbl hbA hS (hin 1 (by decide)) dL_law_570 ?_
  refine lv_aload_n hx hb dL_law_571 rfl (lv_at hl 0 rfl) ?_
  refine lv_iload_n hx hb dL_law_572 rfl (lv_at hl 3 rfl) ?_
  refine lv_iconst (v := 2) hx hb dL_law_573 (by decide) ?_
  refine lv_iadd hx hb dL_law_574 ?_
  refine va_sld hx hb hX hbl hbA hS (hin 2 (by decide)) dL_law_575 ?_
  refine zl_call (E := (adr, D, cA, zr_shp, AR)) (E2 := (adc, D, cA, zc_shp, AC)) (own := RL) (k := 0) (G := g_X5_rises N) (r := (v, ν1)) [.inl (xs (x3 + 1).toNatClampNeg), .inl (xs (x3 + 2).toNatClampNeg)] hx hb hml hl.1 hown hts hK2 hWr hWc hS hAR hd2 (m_X5_rises N) hg zr_ok rfl (fun w hw => by revert w; simp [zk_w]) rfl zw_739 ⟨Nat.le_of_ble_eq_true rfl, Nat.le_of_ble_eq_true rfl⟩ ⟨Nat.le_of_ble_eq_true rfl, Nat.le_of_ble_eq_true rfl⟩ rfl (Nat.le_of_ble_eq_true rfl) dL_law_576 (fun H locs hWr hWc hS => ?_)
  refine lv_icmp_eq (tgt := 1194) hx hb dL_law_579 (by decide) (fun _ => ?_) (fun hc => absurd rfl hc)
  exact kk μ1 ν1 H locs hR1 hWc hWr hS
set_option maxRecDepth 100000 in
set_option maxHeartbeats 4000000 in
theorem zlc_16 {p : Program} {e : Env} {s : State} {m : MethodId} {below : List Frame} {meth : Method} {c : Code} {l : Launch} {b L : Nat} {xs : Nat → Int32} (C0 : lw_At p s m meth c b L xs) {N : Nat} {Rel : ZM → ZM → Prop} {adc adr : Nat → Nat} {D : va_G} {cA : Nat → ClassId} {AC AR : Nat → Prop} (hK1 : zk_K (adc, D, cA, zc_shp, AC) s) (hK2 : zk_K (adr, D, cA, zr_shp, AR) s) (hAC : ∀ q, AC q → s.heap.size ≤ q) (hAR : ∀ q, AR q → s.heap.size ≤ q) (hd1 : ∀ q, AR q → ¬ AC q) (hd2 : ∀ q, AC q → ¬ AR q) (hk : ∀ (a : Int32), zl_ok Rel (f_X4_parts N 0 a) (f_X5_parts N 0 a)) {μ ν : ZM} {H : Heap} {locs : List Loc} {ls : Array Slot} {x3 : Int32} (hin : ∀ k : Nat, k < 7 → vp_in (x3 + nI k) L) (hR : Rel μ ν) (hWc : zk_W (adc, D, cA, zc_shp, AC) μ H) (hWr : zk_W (adr, D, cA, zr_shp, AR) ν H) (hS : va_S (fun q => s.heap.size ≤ q) s.heap H locs) (hl : lv_has ls 4 [(0, .ref b), (1, .ref (adc 0)), (2, .ref (adr 0)), (3, .int x3)])
    (kk : ∀ (μ1 ν1 : ZM) (H : Heap) (locs : List Loc), Rel μ1 ν1 → zk_W (adc, D, cA, zc_shp, AC) μ1 H → zk_W (adr, D, cA, zr_shp, AR) ν1 H → va_S (fun q => s.heap.size ≤ q) s.heap H locs → W p l e room_1 s m #[Value.ref b] below meth c H locs 123 1751 (lw_Z below #[Value.ref b] s) (F0 m 1194 ls [])) : W p l e room_1 s m #[Value.ref b] below meth c H locs 123 1751 (lw_Z below #[Value.ref b] s) (F0 m 584 ls []) := by
  obtain ⟨hx, hb, hr, hml, hown, hts0, hX, hbl, hlocks, hgv⟩ := id C0
  have hts : ∀ w ∈ zk_T, w.before #[Value.ref b] s = true := fun w hw => hts0 w (List.mem_filter.mp hw).1
  have hbA : ¬ (fun q : Nat => s.heap.size ≤ q) b := Nat.not_le.mpr hbl
  obtain ⟨v, μ1, ν1, hf, hg, hR1⟩ := hk (xs (x3 + 1).toNatClampNeg) μ ν hR
  refine lv_aload_n hx hb dL_law_584 rfl (lv_at hl 1 rfl) ?_
  refine lv_aload_n hx hb dL_law_585 rfl (lv_at hl 0 rfl) ?_
  refine lv_iload_n hx hb dL_law_586 rfl (lv_at hl 3 rfl) ?_
  refine lv_iconst (v := 1) hx hb dL_law_587 (by decide) ?_
  refine lv_iadd hx hb dL_law_588 ?_
  refine va_sld hx hb hX hbl hbA hS (hin 1 (by decide)) dL_law_589 ?_
  refine zl_call (E := (adc, D, cA, zc_shp, AC)) (E2 := (adr, D, cA, zr_shp, AR)) (own := RL) (k := 0) (G := g_X4_parts N) (r := (v, μ1)) [.inl (xs (x3 + 1).toNatClampNeg)] hx hb hml hl.1 hown hts hK1 hWc hWr hS hAC hd1 (m_X4_parts N) hf zc_ok rfl (fun w hw => by revert w; simp [zk_w]) rfl zw_384 ⟨Nat.le_of_ble_eq_true rfl, Nat.le_of_ble_eq_true rfl⟩ ⟨Nat.le_of_ble_eq_true rfl, Nat.le_of_ble_eq_true rfl⟩ rfl (Nat.le_of_ble_eq_true rfl) dL_law_590 (fun H locs hWc hWr hS => ?_)
  refine lv_aload_n hx hb dL_law_593 rfl (lv_at hl 2 rfl) ?_
  refine lv_aload_n hx hb dL_law_594 rfl (lv_at hl 0 rfl) ?_
  refine lv_iload_n hx hb dL_law_595 rfl (lv_at hl 3 rfl) ?_
  refine lv_iconst (v := 1) hx hb dL_law_596 (by decide) ?_
  refine lv_iadd hx hb dL_law_597 ?_
  refine va_sld hx hb hX hbl hbA hS (hin 1 (by decide)) dL_law_598 ?_
  refine zl_call (E := (adr, D, cA, zr_shp, AR)) (E2 := (adc, D, cA, zc_shp, AC)) (own := RL) (k := 0) (G := g_X5_parts N) (r := (v, ν1)) [.inl (xs (x3 + 1).toNatClampNeg)] hx hb hml hl.1 hown hts hK2 hWr hWc hS hAR hd2 (m_X5_parts N) hg zr_ok rfl (fun w hw => by revert w; simp [zk_w]) rfl zw_743 ⟨Nat.le_of_ble_eq_true rfl, Nat.le_of_ble_eq_true rfl⟩ ⟨Nat.le_of_ble_eq_true rfl, Nat.le_of_ble_eq_true rfl⟩ rfl (Nat.le_of_ble_eq_true rfl) dL_law_599 (fun H locs hWr hWc hS => ?_)
  refine lv_icmp_eq (tgt := 1194) hx hb dL_law_602 (by decide) (fun _ => ?_) (fun hc => absurd rfl hc)
  exact kk μ1 ν1 H locs hR1 hWc hWr hS
set_option maxRecDepth 100000 in
set_option maxHeartbeats 4000000 in
theorem zlc_17 {p : Program} {e : Env} {s : State} {m : MethodId} {below : List Frame} {meth : Method} {c : Code} {l : Launch} {b L : Nat} {xs : Nat → Int32} (C0 : lw_At p s m meth c b L xs) {N : Nat} {Rel : ZM → ZM → Prop} {adc adr : Nat → Nat} {D : va_G} {cA : Nat → ClassId} {AC AR : Nat → Prop} (hK1 : zk_K (adc, D, cA, zc_shp, AC) s) (hK2 : zk_K (adr, D, cA, zr_shp, AR) s) (hAC : ∀ q, AC q → s.heap.size ≤ q) (hAR : ∀ q, AR q → s.heap.size ≤ q) (hd1 : ∀ q, AR q → ¬ AC q) (hd2 : ∀ q, AC q → ¬ AR q) (hk : zl_ok Rel (f_X4_ever N 0) (f_X5_ever N 0)) {μ ν : ZM} {H : Heap} {locs : List Loc} {ls : Array Slot} {x3 : Int32} (hin : ∀ k : Nat, k < 7 → vp_in (x3 + nI k) L) (hR : Rel μ ν) (hWc : zk_W (adc, D, cA, zc_shp, AC) μ H) (hWr : zk_W (adr, D, cA, zr_shp, AR) ν H) (hS : va_S (fun q => s.heap.size ≤ q) s.heap H locs) (hl : lv_has ls 4 [(0, .ref b), (1, .ref (adc 0)), (2, .ref (adr 0)), (3, .int x3)])
    (kk : ∀ (μ1 ν1 : ZM) (H : Heap) (locs : List Loc), Rel μ1 ν1 → zk_W (adc, D, cA, zc_shp, AC) μ1 H → zk_W (adr, D, cA, zr_shp, AR) ν1 H → va_S (fun q => s.heap.size ≤ q) s.heap H locs → W p l e room_1 s m #[Value.ref b] below meth c H locs 123 1751 (lw_Z below #[Value.ref b] s) (F0 m 1194 ls [])) : W p l e room_1 s m #[Value.ref b] below meth c H locs 123 1751 (lw_Z below #[Value.ref b] s) (F0 m 607 ls []) := by
  obtain ⟨hx, hb, hr, hml, hown, hts0, hX, hbl, hlocks, hgv⟩ := id C0
  have hts : ∀ w ∈ zk_T, w.before #[Value.ref b] s = true := fun w hw => hts0 w (List.mem_filter.mp hw).1
  have hbA : ¬ (fun q : Nat => s.heap.size ≤ q) b := Nat.not_le.mpr hbl
  obtain ⟨v, μ1, ν1, hf, hg, hR1⟩ := hk μ ν hR
  refine lv_aload_n hx hb dL_law_607 rfl (lv_at hl 1 rfl) ?_
  refine zl_call (E := (adc, D, cA, zc_shp, AC)) (E2 := (adr, D, cA, zr_shp, AR)) (own := RL) (k := 0) (G := g_X4_ever N) (r := (v, μ1)) [] hx hb hml hl.1 hown hts hK1 hWc hWr hS hAC hd1 (m_X4_ever N) hf zc_ok rfl (fun w hw => by revert w; simp [zk_w]) rfl zw_388 ⟨Nat.le_of_ble_eq_true rfl, Nat.le_of_ble_eq_true rfl⟩ ⟨Nat.le_of_ble_eq_true rfl, Nat.le_of_ble_eq_true rfl⟩ rfl (Nat.le_of_ble_eq_true rfl) dL_law_608 (fun H locs hWc hWr hS => ?_)
  refine lv_aload_n hx hb dL_law_611 rfl (lv_at hl 2 rfl) ?_
  refine zl_call (E := (adr, D, cA, zr_shp, AR)) (E2 := (adc, D, cA, zc_shp, AC)) (own := RL) (k := 0) (G := g_X5_ever N) (r := (v, ν1)) [] hx hb hml hl.1 hown hts hK2 hWr hWc hS hAR hd2 (m_X5_ever N) hg zr_ok rfl (fun w hw => by revert w; simp [zk_w]) rfl zw_747 ⟨Nat.le_of_ble_eq_true rfl, Nat.le_of_ble_eq_true rfl⟩ ⟨Nat.le_of_ble_eq_true rfl, Nat.le_of_ble_eq_true rfl⟩ rfl (Nat.le_of_ble_eq_true rfl) dL_law_612 (fun H locs hWr hWc hS => ?_)
  refine lv_icmp_eq (tgt := 1194) hx hb dL_law_615 (by decide) (fun _ => ?_) (fun hc => absurd rfl hc)
  exact kk μ1 ν1 H locs hR1 hWc hWr hS
set_option maxRecDepth 100000 in
set_option maxHeartbeats 4000000 in
theorem zlc_18 {p : Program} {e : Env} {s : State} {m : MethodId} {below : List Frame} {meth : Method} {c : Code} {l : Launch} {b L : Nat} {xs : Nat → Int32} (C0 : lw_At p s m meth c b L xs) {N : Nat} {Rel : ZM → ZM → Prop} {adc adr : Nat → Nat} {D : va_G} {cA : Nat → ClassId} {AC AR : Nat → Prop} (hK1 : zk_K (adc, D, cA, zc_shp, AC) s) (hK2 : zk_K (adr, D, cA, zr_shp, AR) s) (hAC : ∀ q, AC q → s.heap.size ≤ q) (hAR : ∀ q, AR q → s.heap.size ≤ q) (hd1 : ∀ q, AR q → ¬ AC q) (hd2 : ∀ q, AC q → ¬ AR q) (hk : ∀ (a : Int32) (b : Int32) (c : Int32), zl_ok Rel (f_X4_rivals N 0 a b c) (f_X5_rivals N 0 a b c)) {μ ν : ZM} {H : Heap} {locs : List Loc} {ls : Array Slot} {x3 : Int32} (hin : ∀ k : Nat, k < 7 → vp_in (x3 + nI k) L) (hR : Rel μ ν) (hWc : zk_W (adc, D, cA, zc_shp, AC) μ H) (hWr : zk_W (adr, D, cA, zr_shp, AR) ν H) (hS : va_S (fun q => s.heap.size ≤ q) s.heap H locs) (hl : lv_has ls 4 [(0, .ref b), (1, .ref (adc 0)), (2, .ref (adr 0)), (3, .int x3)])
    (kk : ∀ (μ1 ν1 : ZM) (H : Heap) (locs : List Loc), Rel μ1 ν1 → zk_W (adc, D, cA, zc_shp, AC) μ1 H → zk_W (adr, D, cA, zr_shp, AR) ν1 H → va_S (fun q => s.heap.size ≤ q) s.heap H locs → W p l e room_1 s m #[Value.ref b] below meth c H locs 123 1751 (lw_Z below #[Value.ref b] s) (F0 m 1194 ls [])) : W p l e room_1 s m #[Value.ref b] below meth c H locs 123 1751 (lw_Z below #[Value.ref b] s) (F0 m 620 ls []) := by
  obtain ⟨hx, hb, hr, hml, hown, hts0, hX, hbl, hlocks, hgv⟩ := id C0
  have hts : ∀ w ∈ zk_T, w.before #[Value.ref b] s = true := fun w hw => hts0 w (List.mem_filter.mp hw).1
  have hbA : ¬ (fun q : Nat => s.heap.size ≤ q) b := Nat.not_le.mpr hbl
  obtain ⟨v, μ1, ν1, hf, hg, hR1⟩ := hk (xs (x3 + 1).toNatClampNeg) (xs (x3 + 2).toNatClampNeg) (xs (x3 + 3).toNatClampNeg) μ ν hR
  refine lv_aload_n hx hb dL_law_620 rfl (lv_at hl 1 rfl) ?_
  refine lv_aload_n hx hb dL_law_621 rfl (lv_at hl 0 rfl) ?_
  refine lv_iload_n hx hb dL_law_622 rfl (lv_at hl 3 rfl) ?_
  refine lv_iconst (v := 1) hx hb dL_law_623 (by decide) ?_
  refine lv_iadd hx hb dL_law_624 ?_
  refine va_sld hx hb hX hbl hbA hS (hin 1 (by decide)) dL_law_625 ?_
  refine lv_aload_n hx hb dL_law_626 rfl (lv_at hl 0 rfl) ?_
  refine lv_iload_n hx hb dL_law_627 rfl (lv_at hl 3 rfl) ?_
  refine lv_iconst (v := 2) hx hb dL_law_628 (by decide) ?_
  refine lv_iadd hx hb dL_law_629 ?_
  refine va_sld hx hb hX hbl hbA hS (hin 2 (by decide)) dL_law_630 ?_
  refine lv_aload_n hx hb dL_law_631 rfl (lv_at hl 0 rfl) ?_
  refine lv_iload_n hx hb dL_law_632 rfl (lv_at hl 3 rfl) ?_
  refine lv_iconst (v := 3) hx hb dL_law_633 (by decide) ?_
  refine lv_iadd hx hb dL_law_634 ?_
  refine va_sld hx hb hX hbl hbA hS (hin 3 (by decide)) dL_law_635 ?_
  refine zl_call (E := (adc, D, cA, zc_shp, AC)) (E2 := (adr, D, cA, zr_shp, AR)) (own := RL) (k := 0) (G := g_X4_rivals N) (r := (v, μ1)) [.inl (xs (x3 + 1).toNatClampNeg), .inl (xs (x3 + 2).toNatClampNeg), .inl (xs (x3 + 3).toNatClampNeg)] hx hb hml hl.1 hown hts hK1 hWc hWr hS hAC hd1 (m_X4_rivals N) hf zc_ok rfl (fun w hw => by revert w; simp [zk_w]) rfl zw_392 ⟨Nat.le_of_ble_eq_true rfl, Nat.le_of_ble_eq_true rfl⟩ ⟨Nat.le_of_ble_eq_true rfl, Nat.le_of_ble_eq_true rfl⟩ rfl (Nat.le_of_ble_eq_true rfl) dL_law_636 (fun H locs hWc hWr hS => ?_)
  refine lv_aload_n hx hb dL_law_639 rfl (lv_at hl 2 rfl) ?_
  refine lv_aload_n hx hb dL_law_640 rfl (lv_at hl 0 rfl) ?_
  refine lv_iload_n hx hb dL_law_641 rfl (lv_at hl 3 rfl) ?_
  refine lv_iconst (v := 1) hx hb dL_law_642 (by decide) ?_
  refine lv_iadd hx hb dL_law_643 ?_
  refine va_sld hx hb hX hbl hbA hS (hin 1 (by decide)) dL_law_644 ?_
  refine lv_aload_n hx hb dL_law_645 rfl (lv_at hl 0 rfl) ?_
  refine lv_iload_n hx hb dL_law_646 rfl (lv_at hl 3 rfl) ?_
  refine lv_iconst (v := 2) hx hb dL_law_647 (by decide) ?_
  refine lv_iadd hx hb dL_law_648 ?_
  refine va_sld hx hb hX hbl hbA hS (hin 2 (by decide)) dL_law_649 ?_
  refine lv_aload_n hx hb dL_law_650 rfl (lv_at hl 0 rfl) ?_
  refine lv_iload_n hx hb dL_law_651 rfl (lv_at hl 3 rfl) ?_
  refine lv_iconst (v := 3) hx hb dL_law_652 (by decide) ?_
  refine lv_iadd hx hb dL_law_653 ?_
  refine va_sld hx hb hX hbl hbA hS (hin 3 (by decide)) dL_law_654 ?_
  refine zl_call (E := (adr, D, cA, zr_shp, AR)) (E2 := (adc, D, cA, zc_shp, AC)) (own := RL) (k := 0) (G := g_X5_rivals N) (r := (v, ν1)) [.inl (xs (x3 + 1).toNatClampNeg), .inl (xs (x3 + 2).toNatClampNeg), .inl (xs (x3 + 3).toNatClampNeg)] hx hb hml hl.1 hown hts hK2 hWr hWc hS hAR hd2 (m_X5_rivals N) hg zr_ok rfl (fun w hw => by revert w; simp [zk_w]) rfl zw_751 ⟨Nat.le_of_ble_eq_true rfl, Nat.le_of_ble_eq_true rfl⟩ ⟨Nat.le_of_ble_eq_true rfl, Nat.le_of_ble_eq_true rfl⟩ rfl (Nat.le_of_ble_eq_true rfl) dL_law_655 (fun H locs hWr hWc hS => ?_)
  refine lv_icmp_eq (tgt := 1194) hx hb dL_law_658 (by decide) (fun _ => ?_) (fun hc => absurd rfl hc)
  exact kk μ1 ν1 H locs hR1 hWc hWr hS
set_option maxRecDepth 100000 in
set_option maxHeartbeats 4000000 in
theorem zlc_19 {p : Program} {e : Env} {s : State} {m : MethodId} {below : List Frame} {meth : Method} {c : Code} {l : Launch} {b L : Nat} {xs : Nat → Int32} (C0 : lw_At p s m meth c b L xs) {N : Nat} {Rel : ZM → ZM → Prop} {adc adr : Nat → Nat} {D : va_G} {cA : Nat → ClassId} {AC AR : Nat → Prop} (hK1 : zk_K (adc, D, cA, zc_shp, AC) s) (hK2 : zk_K (adr, D, cA, zr_shp, AR) s) (hAC : ∀ q, AC q → s.heap.size ≤ q) (hAR : ∀ q, AR q → s.heap.size ≤ q) (hd1 : ∀ q, AR q → ¬ AC q) (hd2 : ∀ q, AC q → ¬ AR q) (hk : ∀ (a : Int32) (b : Int32), zl_ok Rel (f_X4_needs N 0 a b) (f_X5_needs N 0 a b)) {μ ν : ZM} {H : Heap} {locs : List Loc} {ls : Array Slot} {x3 : Int32} (hin : ∀ k : Nat, k < 7 → vp_in (x3 + nI k) L) (hR : Rel μ ν) (hWc : zk_W (adc, D, cA, zc_shp, AC) μ H) (hWr : zk_W (adr, D, cA, zr_shp, AR) ν H) (hS : va_S (fun q => s.heap.size ≤ q) s.heap H locs) (hl : lv_has ls 4 [(0, .ref b), (1, .ref (adc 0)), (2, .ref (adr 0)), (3, .int x3)])
    (kk : ∀ (μ1 ν1 : ZM) (H : Heap) (locs : List Loc), Rel μ1 ν1 → zk_W (adc, D, cA, zc_shp, AC) μ1 H → zk_W (adr, D, cA, zr_shp, AR) ν1 H → va_S (fun q => s.heap.size ≤ q) s.heap H locs → W p l e room_1 s m #[Value.ref b] below meth c H locs 123 1751 (lw_Z below #[Value.ref b] s) (F0 m 1194 ls [])) : W p l e room_1 s m #[Value.ref b] below meth c H locs 123 1751 (lw_Z below #[Value.ref b] s) (F0 m 663 ls []) := by
  obtain ⟨hx, hb, hr, hml, hown, hts0, hX, hbl, hlocks, hgv⟩ := id C0
  have hts : ∀ w ∈ zk_T, w.before #[Value.ref b] s = true := fun w hw => hts0 w (List.mem_filter.mp hw).1
  have hbA : ¬ (fun q : Nat => s.heap.size ≤ q) b := Nat.not_le.mpr hbl
  obtain ⟨v, μ1, ν1, hf, hg, hR1⟩ := hk (xs (x3 + 1).toNatClampNeg) (xs (x3 + 2).toNatClampNeg) μ ν hR
  refine lv_aload_n hx hb dL_law_663 rfl (lv_at hl 1 rfl) ?_
  refine lv_aload_n hx hb dL_law_664 rfl (lv_at hl 0 rfl) ?_
  refine lv_iload_n hx hb dL_law_665 rfl (lv_at hl 3 rfl) ?_
  refine lv_iconst (v := 1) hx hb dL_law_666 (by decide) ?_
  refine lv_iadd hx hb dL_law_667 ?_
  refine va_sld hx hb hX hbl hbA hS (hin 1 (by decide)) dL_law_668 ?_
  refine lv_aload_n hx hb dL_law_669 rfl (lv_at hl 0 rfl) ?_
  refine lv_iload_n hx hb dL_law_670 rfl (lv_at hl 3 rfl) ?_
  refine lv_iconst (v := 2) hx hb dL_law_671 (by decide) ?_
  refine lv_iadd hx hb dL_law_672 ?_
  refine va_sld hx hb hX hbl hbA hS (hin 2 (by decide)) dL_law_673 ?_
  refine zl_call (E := (adc, D, cA, zc_shp, AC)) (E2 := (adr, D, cA, zr_shp, AR)) (own := RL) (k := 0) (G := g_X4_needs N) (r := (v, μ1)) [.inl (xs (x3 + 1).toNatClampNeg), .inl (xs (x3 + 2).toNatClampNeg)] hx hb hml hl.1 hown hts hK1 hWc hWr hS hAC hd1 (m_X4_needs N) hf zc_ok rfl (fun w hw => by revert w; simp [zk_w]) rfl zw_410 ⟨Nat.le_of_ble_eq_true rfl, Nat.le_of_ble_eq_true rfl⟩ ⟨Nat.le_of_ble_eq_true rfl, Nat.le_of_ble_eq_true rfl⟩ rfl (Nat.le_of_ble_eq_true rfl) dL_law_674 (fun H locs hWc hWr hS => ?_)
  refine lv_aload_n hx hb dL_law_677 rfl (lv_at hl 2 rfl) ?_
  refine lv_aload_n hx hb dL_law_678 rfl (lv_at hl 0 rfl) ?_
  refine lv_iload_n hx hb dL_law_679 rfl (lv_at hl 3 rfl) ?_
  refine lv_iconst (v := 1) hx hb dL_law_680 (by decide) ?_
  refine lv_iadd hx hb dL_law_681 ?_
  refine va_sld hx hb hX hbl hbA hS (hin 1 (by decide)) dL_law_682 ?_
  refine lv_aload_n hx hb dL_law_683 rfl (lv_at hl 0 rfl) ?_
  refine lv_iload_n hx hb dL_law_684 rfl (lv_at hl 3 rfl) ?_
  refine lv_iconst (v := 2) hx hb dL_law_685 (by decide) ?_
  refine lv_iadd hx hb dL_law_686 ?_
  refine va_sld hx hb hX hbl hbA hS (hin 2 (by decide)) dL_law_687 ?_
  refine zl_call (E := (adr, D, cA, zr_shp, AR)) (E2 := (adc, D, cA, zc_shp, AC)) (own := RL) (k := 0) (G := g_X5_needs N) (r := (v, ν1)) [.inl (xs (x3 + 1).toNatClampNeg), .inl (xs (x3 + 2).toNatClampNeg)] hx hb hml hl.1 hown hts hK2 hWr hWc hS hAR hd2 (m_X5_needs N) hg zr_ok rfl (fun w hw => by revert w; simp [zk_w]) rfl zw_758 ⟨Nat.le_of_ble_eq_true rfl, Nat.le_of_ble_eq_true rfl⟩ ⟨Nat.le_of_ble_eq_true rfl, Nat.le_of_ble_eq_true rfl⟩ rfl (Nat.le_of_ble_eq_true rfl) dL_law_688 (fun H locs hWr hWc hS => ?_)
  refine lv_icmp_eq (tgt := 1194) hx hb dL_law_691 (by decide) (fun _ => ?_) (fun hc => absurd rfl hc)
  exact kk μ1 ν1 H locs hR1 hWc hWr hS
set_option maxRecDepth 100000 in
set_option maxHeartbeats 4000000 in
theorem zlc_20 {p : Program} {e : Env} {s : State} {m : MethodId} {below : List Frame} {meth : Method} {c : Code} {l : Launch} {b L : Nat} {xs : Nat → Int32} (C0 : lw_At p s m meth c b L xs) {N : Nat} {Rel : ZM → ZM → Prop} {adc adr : Nat → Nat} {D : va_G} {cA : Nat → ClassId} {AC AR : Nat → Prop} (hK1 : zk_K (adc, D, cA, zc_shp, AC) s) (hK2 : zk_K (adr, D, cA, zr_shp, AR) s) (hAC : ∀ q, AC q → s.heap.size ≤ q) (hAR : ∀ q, AR q → s.heap.size ≤ q) (hd1 : ∀ q, AR q → ¬ AC q) (hd2 : ∀ q, AC q → ¬ AR q) (hk : ∀ (a : Int32) (b : Int32), zl_ok Rel (f_X4_soothe N 0 a b) (f_X5_soothe N 0 a b)) {μ ν : ZM} {H : Heap} {locs : List Loc} {ls : Array Slot} {x3 : Int32} (hin : ∀ k : Nat, k < 7 → vp_in (x3 + nI k) L) (hR : Rel μ ν) (hWc : zk_W (adc, D, cA, zc_shp, AC) μ H) (hWr : zk_W (adr, D, cA, zr_shp, AR) ν H) (hS : va_S (fun q => s.heap.size ≤ q) s.heap H locs) (hl : lv_has ls 4 [(0, .ref b), (1, .ref (adc 0)), (2, .ref (adr 0)), (3, .int x3)])
    (kk : ∀ (μ1 ν1 : ZM) (H : Heap) (locs : List Loc), Rel μ1 ν1 → zk_W (adc, D, cA, zc_shp, AC) μ1 H → zk_W (adr, D, cA, zr_shp, AR) ν1 H → va_S (fun q => s.heap.size ≤ q) s.heap H locs → W p l e room_1 s m #[Value.ref b] below meth c H locs 123 1751 (lw_Z below #[Value.ref b] s) (F0 m 1194 ls [])) : W p l e room_1 s m #[Value.ref b] below meth c H locs 123 1751 (lw_Z below #[Value.ref b] s) (F0 m 696 ls []) := by
  obtain ⟨hx, hb, hr, hml, hown, hts0, hX, hbl, hlocks, hgv⟩ := id C0
  have hts : ∀ w ∈ zk_T, w.before #[Value.ref b] s = true := fun w hw => hts0 w (List.mem_filter.mp hw).1
  have hbA : ¬ (fun q : Nat => s.heap.size ≤ q) b := Nat.not_le.mpr hbl
  obtain ⟨v, μ1, ν1, hf, hg, hR1⟩ := hk (xs (x3 + 1).toNatClampNeg) (xs (x3 + 2).toNatClampNeg) μ ν hR
  refine lv_aload_n hx hb dL_law_696 rfl (lv_at hl 1 rfl) ?_
  refine lv_aload_n hx hb dL_law_697 rfl (lv_at hl 0 rfl) ?_
  refine lv_iload_n hx hb dL_law_698 rfl (lv_at hl 3 rfl) ?_
  refine lv_iconst (v := 1) hx hb dL_law_699 (by decide) ?_
  refine lv_iadd hx hb dL_law_700 ?_
  refine va_sld hx hb hX hbl hbA hS (hin 1 (by decide)) dL_law_701 ?_
  refine lv_aload_n hx hb dL_law_702 rfl (lv_at hl 0 rfl) ?_
  refine lv_iload_n hx hb dL_law_703 rfl (lv_at hl 3 rfl) ?_
  refine lv_iconst (v := 2) hx hb dL_law_704 (by decide) ?_
  refine lv_iadd hx hb dL_law_705 ?_
  refine va_sld hx hb hX hbl hbA hS (hin 2 (by decide)) dL_law_706 ?_
  refine zl_call (E := (adc, D, cA, zc_shp, AC)) (E2 := (adr, D, cA, zr_shp, AR)) (own := RL) (k := 0) (G := g_X4_soothe N) (r := (v, μ1)) [.inl (xs (x3 + 1).toNatClampNeg), .inl (xs (x3 + 2).toNatClampNeg)] hx hb hml hl.1 hown hts hK1 hWc hWr hS hAC hd1 (m_X4_soothe N) hf zc_ok rfl (fun w hw => by revert w; simp [zk_w]) rfl zw_414 ⟨Nat.le_of_ble_eq_true rfl, Nat.le_of_ble_eq_true rfl⟩ ⟨Nat.le_of_ble_eq_true rfl, Nat.le_of_ble_eq_true rfl⟩ rfl (Nat.le_of_ble_eq_true rfl) dL_law_707 (fun H locs hWc hWr hS => ?_)
  refine lv_aload_n hx hb dL_law_710 rfl (lv_at hl 2 rfl) ?_
  refine lv_aload_n hx hb dL_law_711 rfl (lv_at hl 0 rfl) ?_
  refine lv_iload_n hx hb dL_law_712 rfl (lv_at hl 3 rfl) ?_
  refine lv_iconst (v := 1) hx hb dL_law_713 (by decide) ?_
  refine lv_iadd hx hb dL_law_714 ?_
  refine va_sld hx hb hX hbl hbA hS (hin 1 (by decide)) dL_law_715 ?_
  refine lv_aload_n hx hb dL_law_716 rfl (lv_at hl 0 rfl) ?_
  refine lv_iload_n hx hb dL_law_717 rfl (lv_at hl 3 rfl) ?_
  refine lv_iconst (v := 2) hx hb dL_law_718 (by decide) ?_
  refine lv_iadd hx hb dL_law_719 ?_
  refine va_sld hx hb hX hbl hbA hS (hin 2 (by decide)) dL_law_720 ?_
  refine zl_call (E := (adr, D, cA, zr_shp, AR)) (E2 := (adc, D, cA, zc_shp, AC)) (own := RL) (k := 0) (G := g_X5_soothe N) (r := (v, ν1)) [.inl (xs (x3 + 1).toNatClampNeg), .inl (xs (x3 + 2).toNatClampNeg)] hx hb hml hl.1 hown hts hK2 hWr hWc hS hAR hd2 (m_X5_soothe N) hg zr_ok rfl (fun w hw => by revert w; simp [zk_w]) rfl zw_762 ⟨Nat.le_of_ble_eq_true rfl, Nat.le_of_ble_eq_true rfl⟩ ⟨Nat.le_of_ble_eq_true rfl, Nat.le_of_ble_eq_true rfl⟩ rfl (Nat.le_of_ble_eq_true rfl) dL_law_721 (fun H locs hWr hWc hS => ?_)
  refine lv_icmp_eq (tgt := 1194) hx hb dL_law_724 (by decide) (fun _ => ?_) (fun hc => absurd rfl hc)
  exact kk μ1 ν1 H locs hR1 hWc hWr hS
set_option maxRecDepth 100000 in
set_option maxHeartbeats 4000000 in
theorem zlc_21 {p : Program} {e : Env} {s : State} {m : MethodId} {below : List Frame} {meth : Method} {c : Code} {l : Launch} {b L : Nat} {xs : Nat → Int32} (C0 : lw_At p s m meth c b L xs) {N : Nat} {Rel : ZM → ZM → Prop} {adc adr : Nat → Nat} {D : va_G} {cA : Nat → ClassId} {AC AR : Nat → Prop} (hK1 : zk_K (adc, D, cA, zc_shp, AC) s) (hK2 : zk_K (adr, D, cA, zr_shp, AR) s) (hAC : ∀ q, AC q → s.heap.size ≤ q) (hAR : ∀ q, AR q → s.heap.size ≤ q) (hd1 : ∀ q, AR q → ¬ AC q) (hd2 : ∀ q, AC q → ¬ AR q) (hk : ∀ (a : Int32), zl_ok Rel (f_X4_start N 0 a) (f_X5_start N 0 a)) {μ ν : ZM} {H : Heap} {locs : List Loc} {ls : Array Slot} {x3 : Int32} (hin : ∀ k : Nat, k < 7 → vp_in (x3 + nI k) L) (hR : Rel μ ν) (hWc : zk_W (adc, D, cA, zc_shp, AC) μ H) (hWr : zk_W (adr, D, cA, zr_shp, AR) ν H) (hS : va_S (fun q => s.heap.size ≤ q) s.heap H locs) (hl : lv_has ls 4 [(0, .ref b), (1, .ref (adc 0)), (2, .ref (adr 0)), (3, .int x3)])
    (kk : ∀ (μ1 ν1 : ZM) (H : Heap) (locs : List Loc), Rel μ1 ν1 → zk_W (adc, D, cA, zc_shp, AC) μ1 H → zk_W (adr, D, cA, zr_shp, AR) ν1 H → va_S (fun q => s.heap.size ≤ q) s.heap H locs → W p l e room_1 s m #[Value.ref b] below meth c H locs 123 1751 (lw_Z below #[Value.ref b] s) (F0 m 1194 ls [])) : W p l e room_1 s m #[Value.ref b] below meth c H locs 123 1751 (lw_Z below #[Value.ref b] s) (F0 m 729 ls []) := by
  obtain ⟨hx, hb, hr, hml, hown, hts0, hX, hbl, hlocks, hgv⟩ := id C0
  have hts : ∀ w ∈ zk_T, w.before #[Value.ref b] s = true := fun w hw => hts0 w (List.mem_filter.mp hw).1
  have hbA : ¬ (fun q : Nat => s.heap.size ≤ q) b := Nat.not_le.mpr hbl
  obtain ⟨v, μ1, ν1, hf, hg, hR1⟩ := hk (xs (x3 + 1).toNatClampNeg) μ ν hR
  refine lv_aload_n hx hb dL_law_729 rfl (lv_at hl 1 rfl) ?_
  refine lv_aload_n hx hb dL_law_730 rfl (lv_at hl 0 rfl) ?_
  refine lv_iload_n hx hb dL_law_731 rfl (lv_at hl 3 rfl) ?_
  refine lv_iconst (v := 1) hx hb dL_law_732 (by decide) ?_
  refine lv_iadd hx hb dL_law_733 ?_
  refine va_sld hx hb hX hbl hbA hS (hin 1 (by decide)) dL_law_734 ?_
  refine zl_call (E := (adc, D, cA, zc_shp, AC)) (E2 := (adr, D, cA, zr_shp, AR)) (own := RL) (k := 0) (G := g_X4_start N) (r := (v, μ1)) [.inl (xs (x3 + 1).toNatClampNeg)] hx hb hml hl.1 hown hts hK1 hWc hWr hS hAC hd1 (m_X4_start N) hf zc_ok rfl (fun w hw => by revert w; simp [zk_w]) rfl zw_422 ⟨Nat.le_of_ble_eq_true rfl, Nat.le_of_ble_eq_true rfl⟩ ⟨Nat.le_of_ble_eq_true rfl, Nat.le_of_ble_eq_true rfl⟩ rfl (Nat.le_of_ble_eq_true rfl) dL_law_735 (fun H locs hWc hWr hS => ?_)
  refine lv_aload_n hx hb dL_law_738 rfl (lv_at hl 2 rfl) ?_
  refine lv_aload_n hx hb dL_law_739 rfl (lv_at hl 0 rfl) ?_
  refine lv_iload_n hx hb dL_law_740 rfl (lv_at hl 3 rfl) ?_
  refine lv_iconst (v := 1) hx hb dL_law_741 (by decide) ?_
  refine lv_iadd hx hb dL_law_742 ?_
  refine va_sld hx hb hX hbl hbA hS (hin 1 (by decide)) dL_law_743 ?_
  refine zl_call (E := (adr, D, cA, zr_shp, AR)) (E2 := (adc, D, cA, zc_shp, AC)) (own := RL) (k := 0) (G := g_X5_start N) (r := (v, ν1)) [.inl (xs (x3 + 1).toNatClampNeg)] hx hb hml hl.1 hown hts hK2 hWr hWc hS hAR hd2 (m_X5_start N) hg zr_ok rfl (fun w hw => by revert w; simp [zk_w]) rfl zw_766 ⟨Nat.le_of_ble_eq_true rfl, Nat.le_of_ble_eq_true rfl⟩ ⟨Nat.le_of_ble_eq_true rfl, Nat.le_of_ble_eq_true rfl⟩ rfl (Nat.le_of_ble_eq_true rfl) dL_law_744 (fun H locs hWr hWc hS => ?_)
  refine lv_icmp_eq (tgt := 1194) hx hb dL_law_747 (by decide) (fun _ => ?_) (fun hc => absurd rfl hc)
  exact kk μ1 ν1 H locs hR1 hWc hWr hS
set_option maxRecDepth 100000 in
set_option maxHeartbeats 4000000 in
theorem zlc_22 {p : Program} {e : Env} {s : State} {m : MethodId} {below : List Frame} {meth : Method} {c : Code} {l : Launch} {b L : Nat} {xs : Nat → Int32} (C0 : lw_At p s m meth c b L xs) {N : Nat} {Rel : ZM → ZM → Prop} {adc adr : Nat → Nat} {D : va_G} {cA : Nat → ClassId} {AC AR : Nat → Prop} (hK1 : zk_K (adc, D, cA, zc_shp, AC) s) (hK2 : zk_K (adr, D, cA, zr_shp, AR) s) (hAC : ∀ q, AC q → s.heap.size ≤ q) (hAR : ∀ q, AR q → s.heap.size ≤ q) (hd1 : ∀ q, AR q → ¬ AC q) (hd2 : ∀ q, AC q → ¬ AR q) (hk : ∀ (a : Int32), zl_ok Rel (f_X4_sum N 0 a) (f_X5_sum N 0 a)) {μ ν : ZM} {H : Heap} {locs : List Loc} {ls : Array Slot} {x3 : Int32} (hin : ∀ k : Nat, k < 7 → vp_in (x3 + nI k) L) (hR : Rel μ ν) (hWc : zk_W (adc, D, cA, zc_shp, AC) μ H) (hWr : zk_W (adr, D, cA, zr_shp, AR) ν H) (hS : va_S (fun q => s.heap.size ≤ q) s.heap H locs) (hl : lv_has ls 4 [(0, .ref b), (1, .ref (adc 0)), (2, .ref (adr 0)), (3, .int x3)])
    (kk : ∀ (μ1 ν1 : ZM) (H : Heap) (locs : List Loc), Rel μ1 ν1 → zk_W (adc, D, cA, zc_shp, AC) μ1 H → zk_W (adr, D, cA, zr_shp, AR) ν1 H → va_S (fun q => s.heap.size ≤ q) s.heap H locs → W p l e room_1 s m #[Value.ref b] below meth c H locs 123 1751 (lw_Z below #[Value.ref b] s) (F0 m 1194 ls [])) : W p l e room_1 s m #[Value.ref b] below meth c H locs 123 1751 (lw_Z below #[Value.ref b] s) (F0 m 752 ls []) := by
  obtain ⟨hx, hb, hr, hml, hown, hts0, hX, hbl, hlocks, hgv⟩ := id C0
  have hts : ∀ w ∈ zk_T, w.before #[Value.ref b] s = true := fun w hw => hts0 w (List.mem_filter.mp hw).1
  have hbA : ¬ (fun q : Nat => s.heap.size ≤ q) b := Nat.not_le.mpr hbl
  obtain ⟨v, μ1, ν1, hf, hg, hR1⟩ := hk (xs (x3 + 1).toNatClampNeg) μ ν hR
  refine lv_aload_n hx hb dL_law_752 rfl (lv_at hl 1 rfl) ?_
  refine lv_aload_n hx hb dL_law_753 rfl (lv_at hl 0 rfl) ?_
  refine lv_iload_n hx hb dL_law_754 rfl (lv_at hl 3 rfl) ?_
  refine lv_iconst (v := 1) hx hb dL_law_755 (by decide) ?_
  refine lv_iadd hx hb dL_law_756 ?_
  refine va_sld hx hb hX hbl hbA hS (hin 1 (by decide)) dL_law_757 ?_
  refine zl_call (E := (adc, D, cA, zc_shp, AC)) (E2 := (adr, D, cA, zr_shp, AR)) (own := RL) (k := 0) (G := g_X4_sum N) (r := (v, μ1)) [.inl (xs (x3 + 1).toNatClampNeg)] hx hb hml hl.1 hown hts hK1 hWc hWr hS hAC hd1 (m_X4_sum N) hf zc_ok rfl (fun w hw => by revert w; simp [zk_w]) rfl zw_430 ⟨Nat.le_of_ble_eq_true rfl, Nat.le_of_ble_eq_true rfl⟩ ⟨Nat.le_of_ble_eq_true rfl, Nat.le_of_ble_eq_true rfl⟩ rfl (Nat.le_of_ble_eq_true rfl) dL_law_758 (fun H locs hWc hWr hS => ?_)
  refine lv_aload_n hx hb dL_law_761 rfl (lv_at hl 2 rfl) ?_
  refine lv_aload_n hx hb dL_law_762 rfl (lv_at hl 0 rfl) ?_
  refine lv_iload_n hx hb dL_law_763 rfl (lv_at hl 3 rfl) ?_
  refine lv_iconst (v := 1) hx hb dL_law_764 (by decide) ?_
  refine lv_iadd hx hb dL_law_765 ?_
  refine va_sld hx hb hX hbl hbA hS (hin 1 (by decide)) dL_law_766 ?_
  refine zl_call (E := (adr, D, cA, zr_shp, AR)) (E2 := (adc, D, cA, zc_shp, AC)) (own := RL) (k := 0) (G := g_X5_sum N) (r := (v, ν1)) [.inl (xs (x3 + 1).toNatClampNeg)] hx hb hml hl.1 hown hts hK2 hWr hWc hS hAR hd2 (m_X5_sum N) hg zr_ok rfl (fun w hw => by revert w; simp [zk_w]) rfl zw_770 ⟨Nat.le_of_ble_eq_true rfl, Nat.le_of_ble_eq_true rfl⟩ ⟨Nat.le_of_ble_eq_true rfl, Nat.le_of_ble_eq_true rfl⟩ rfl (Nat.le_of_ble_eq_true rfl) dL_law_767 (fun H locs hWr hWc hS => ?_)
  refine lv_icmp_eq (tgt := 1194) hx hb dL_law_770 (by decide) (fun _ => ?_) (fun hc => absurd rfl hc)
  exact kk μ1 ν1 H locs hR1 hWc hWr hS
set_option maxRecDepth 100000 in
set_option maxHeartbeats 4000000 in
theorem zlc_23 {p : Program} {e : Env} {s : State} {m : MethodId} {below : List Frame} {meth : Method} {c : Code} {l : Launch} {b L : Nat} {xs : Nat → Int32} (C0 : lw_At p s m meth c b L xs) {N : Nat} {Rel : ZM → ZM → Prop} {adc adr : Nat → Nat} {D : va_G} {cA : Nat → ClassId} {AC AR : Nat → Prop} (hK1 : zk_K (adc, D, cA, zc_shp, AC) s) (hK2 : zk_K (adr, D, cA, zr_shp, AR) s) (hAC : ∀ q, AC q → s.heap.size ≤ q) (hAR : ∀ q, AR q → s.heap.size ≤ q) (hd1 : ∀ q, AR q → ¬ AC q) (hd2 : ∀ q, AC q → ¬ AR q) (hk : ∀ (a : Int32) (b : Int32) (c : Int32), zl_ok Rel (f_X4_rows N 0 a b c) (f_X5_rows N 0 a b c)) {μ ν : ZM} {H : Heap} {locs : List Loc} {ls : Array Slot} {x3 : Int32} (hin : ∀ k : Nat, k < 7 → vp_in (x3 + nI k) L) (hR : Rel μ ν) (hWc : zk_W (adc, D, cA, zc_shp, AC) μ H) (hWr : zk_W (adr, D, cA, zr_shp, AR) ν H) (hS : va_S (fun q => s.heap.size ≤ q) s.heap H locs) (hl : lv_has ls 4 [(0, .ref b), (1, .ref (adc 0)), (2, .ref (adr 0)), (3, .int x3)])
    (kk : ∀ (μ1 ν1 : ZM) (H : Heap) (locs : List Loc), Rel μ1 ν1 → zk_W (adc, D, cA, zc_shp, AC) μ1 H → zk_W (adr, D, cA, zr_shp, AR) ν1 H → va_S (fun q => s.heap.size ≤ q) s.heap H locs → W p l e room_1 s m #[Value.ref b] below meth c H locs 123 1751 (lw_Z below #[Value.ref b] s) (F0 m 1194 ls [])) : W p l e room_1 s m #[Value.ref b] below meth c H locs 123 1751 (lw_Z below #[Value.ref b] s) (F0 m 775 ls []) := by
  obtain ⟨hx, hb, hr, hml, hown, hts0, hX, hbl, hlocks, hgv⟩ := id C0
  have hts : ∀ w ∈ zk_T, w.before #[Value.ref b] s = true := fun w hw => hts0 w (List.mem_filter.mp hw).1
  have hbA : ¬ (fun q : Nat => s.heap.size ≤ q) b := Nat.not_le.mpr hbl
  obtain ⟨v, μ1, ν1, hf, hg, hR1⟩ := hk (xs (x3 + 1).toNatClampNeg) (xs (x3 + 2).toNatClampNeg) (xs (x3 + 3).toNatClampNeg) μ ν hR
  refine lv_aload_n hx hb dL_law_775 rfl (lv_at hl 1 rfl) ?_
  refine lv_aload_n hx hb dL_law_776 rfl (lv_at hl 0 rfl) ?_
  refine lv_iload_n hx hb dL_law_777 rfl (lv_at hl 3 rfl) ?_
  refine lv_iconst (v := 1) hx hb dL_law_778 (by decide) ?_
  refine lv_iadd hx hb dL_law_779 ?_
  refine va_sld hx hb hX hbl hbA hS (hin 1 (by decide)) dL_law_780 ?_
  refine lv_aload_n hx hb dL_law_781 rfl (lv_at hl 0 rfl) ?_
  refine lv_iload_n hx hb dL_law_782 rfl (lv_at hl 3 rfl) ?_
  refine lv_iconst (v := 2) hx hb dL_law_783 (by decide) ?_
  refine lv_iadd hx hb dL_law_784 ?_
  refine va_sld hx hb hX hbl hbA hS (hin 2 (by decide)) dL_law_785 ?_
  refine lv_aload_n hx hb dL_law_786 rfl (lv_at hl 0 rfl) ?_
  refine lv_iload_n hx hb dL_law_787 rfl (lv_at hl 3 rfl) ?_
  refine lv_iconst (v := 3) hx hb dL_law_788 (by decide) ?_
  refine lv_iadd hx hb dL_law_789 ?_
  refine va_sld hx hb hX hbl hbA hS (hin 3 (by decide)) dL_law_790 ?_
  refine zl_call (E := (adc, D, cA, zc_shp, AC)) (E2 := (adr, D, cA, zr_shp, AR)) (own := RL) (k := 0) (G := g_X4_rows N) (r := (v, μ1)) [.inl (xs (x3 + 1).toNatClampNeg), .inl (xs (x3 + 2).toNatClampNeg), .inl (xs (x3 + 3).toNatClampNeg)] hx hb hml hl.1 hown hts hK1 hWc hWr hS hAC hd1 (m_X4_rows N) hf zc_ok rfl (fun w hw => by revert w; simp [zk_w]) rfl zw_434 ⟨Nat.le_of_ble_eq_true rfl, Nat.le_of_ble_eq_true rfl⟩ ⟨Nat.le_of_ble_eq_true rfl, Nat.le_of_ble_eq_true rfl⟩ rfl (Nat.le_of_ble_eq_true rfl) dL_law_791 (fun H locs hWc hWr hS => ?_)
  refine lv_aload_n hx hb dL_law_794 rfl (lv_at hl 2 rfl) ?_
  refine lv_aload_n hx hb dL_law_795 rfl (lv_at hl 0 rfl) ?_
  refine lv_iload_n hx hb dL_law_796 rfl (lv_at hl 3 rfl) ?_
  refine lv_iconst (v := 1) hx hb dL_law_797 (by decide) ?_
  refine lv_iadd hx hb dL_law_798 ?_
  refine va_sld hx hb hX hbl hbA hS (hin 1 (by decide)) dL_law_799 ?_
  refine lv_aload_n hx hb dL_law_800 rfl (lv_at hl 0 rfl) ?_
  refine lv_iload_n hx hb dL_law_801 rfl (lv_at hl 3 rfl) ?_
  refine lv_iconst (v := 2) hx hb dL_law_802 (by decide) ?_
  refine lv_iadd hx hb dL_law_803 ?_
  refine va_sld hx hb hX hbl hbA hS (hin 2 (by decide)) dL_law_804 ?_
  refine lv_aload_n hx hb dL_law_805 rfl (lv_at hl 0 rfl) ?_
  refine lv_iload_n hx hb dL_law_806 rfl (lv_at hl 3 rfl) ?_
  refine lv_iconst (v := 3) hx hb dL_law_807 (by decide) ?_
  refine lv_iadd hx hb dL_law_808 ?_
  refine va_sld hx hb hX hbl hbA hS (hin 3 (by decide)) dL_law_809 ?_
  refine zl_call (E := (adr, D, cA, zr_shp, AR)) (E2 := (adc, D, cA, zc_shp, AC)) (own := RL) (k := 0) (G := g_X5_rows N) (r := (v, ν1)) [.inl (xs (x3 + 1).toNatClampNeg), .inl (xs (x3 + 2).toNatClampNeg), .inl (xs (x3 + 3).toNatClampNeg)] hx hb hml hl.1 hown hts hK2 hWr hWc hS hAR hd2 (m_X5_rows N) hg zr_ok rfl (fun w hw => by revert w; simp [zk_w]) rfl zw_774 ⟨Nat.le_of_ble_eq_true rfl, Nat.le_of_ble_eq_true rfl⟩ ⟨Nat.le_of_ble_eq_true rfl, Nat.le_of_ble_eq_true rfl⟩ rfl (Nat.le_of_ble_eq_true rfl) dL_law_810 (fun H locs hWr hWc hS => ?_)
  refine lv_icmp_eq (tgt := 1194) hx hb dL_law_813 (by decide) (fun _ => ?_) (fun hc => absurd rfl hc)
  exact kk μ1 ν1 H locs hR1 hWc hWr hS
set_option maxRecDepth 100000 in
set_option maxHeartbeats 4000000 in
theorem zlc_24 {p : Program} {e : Env} {s : State} {m : MethodId} {below : List Frame} {meth : Method} {c : Code} {l : Launch} {b L : Nat} {xs : Nat → Int32} (C0 : lw_At p s m meth c b L xs) {N : Nat} {Rel : ZM → ZM → Prop} {adc adr : Nat → Nat} {D : va_G} {cA : Nat → ClassId} {AC AR : Nat → Prop} (hK1 : zk_K (adc, D, cA, zc_shp, AC) s) (hK2 : zk_K (adr, D, cA, zr_shp, AR) s) (hAC : ∀ q, AC q → s.heap.size ≤ q) (hAR : ∀ q, AR q → s.heap.size ≤ q) (hd1 : ∀ q, AR q → ¬ AC q) (hd2 : ∀ q, AC q → ¬ AR q) (hk : zl_ok Rel (f_X4_image N 0) (f_X5_image N 0)) {μ ν : ZM} {H : Heap} {locs : List Loc} {ls : Array Slot} {x3 : Int32} (hin : ∀ k : Nat, k < 7 → vp_in (x3 + nI k) L) (hR : Rel μ ν) (hWc : zk_W (adc, D, cA, zc_shp, AC) μ H) (hWr : zk_W (adr, D, cA, zr_shp, AR) ν H) (hS : va_S (fun q => s.heap.size ≤ q) s.heap H locs) (hl : lv_has ls 4 [(0, .ref b), (1, .ref (adc 0)), (2, .ref (adr 0)), (3, .int x3)])
    (kk : ∀ (μ1 ν1 : ZM) (H : Heap) (locs : List Loc), Rel μ1 ν1 → zk_W (adc, D, cA, zc_shp, AC) μ1 H → zk_W (adr, D, cA, zr_shp, AR) ν1 H → va_S (fun q => s.heap.size ≤ q) s.heap H locs → W p l e room_1 s m #[Value.ref b] below meth c H locs 123 1751 (lw_Z below #[Value.ref b] s) (F0 m 1194 ls [])) : W p l e room_1 s m #[Value.ref b] below meth c H locs 123 1751 (lw_Z below #[Value.ref b] s) (F0 m 818 ls []) := by
  obtain ⟨hx, hb, hr, hml, hown, hts0, hX, hbl, hlocks, hgv⟩ := id C0
  have hts : ∀ w ∈ zk_T, w.before #[Value.ref b] s = true := fun w hw => hts0 w (List.mem_filter.mp hw).1
  have hbA : ¬ (fun q : Nat => s.heap.size ≤ q) b := Nat.not_le.mpr hbl
  obtain ⟨v, μ1, ν1, hf, hg, hR1⟩ := hk μ ν hR
  refine lv_aload_n hx hb dL_law_818 rfl (lv_at hl 1 rfl) ?_
  refine zl_call (E := (adc, D, cA, zc_shp, AC)) (E2 := (adr, D, cA, zr_shp, AR)) (own := RL) (k := 0) (G := g_X4_image N) (r := (v, μ1)) [] hx hb hml hl.1 hown hts hK1 hWc hWr hS hAC hd1 (m_X4_image N) hf zc_ok rfl (fun w hw => by revert w; simp [zk_w]) rfl zw_449 ⟨Nat.le_of_ble_eq_true rfl, Nat.le_of_ble_eq_true rfl⟩ ⟨Nat.le_of_ble_eq_true rfl, Nat.le_of_ble_eq_true rfl⟩ rfl (Nat.le_of_ble_eq_true rfl) dL_law_819 (fun H locs hWc hWr hS => ?_)
  refine lv_aload_n hx hb dL_law_822 rfl (lv_at hl 2 rfl) ?_
  refine zl_call (E := (adr, D, cA, zr_shp, AR)) (E2 := (adc, D, cA, zc_shp, AC)) (own := RL) (k := 0) (G := g_X5_image N) (r := (v, ν1)) [] hx hb hml hl.1 hown hts hK2 hWr hWc hS hAR hd2 (m_X5_image N) hg zr_ok rfl (fun w hw => by revert w; simp [zk_w]) rfl zw_778 ⟨Nat.le_of_ble_eq_true rfl, Nat.le_of_ble_eq_true rfl⟩ ⟨Nat.le_of_ble_eq_true rfl, Nat.le_of_ble_eq_true rfl⟩ rfl (Nat.le_of_ble_eq_true rfl) dL_law_823 (fun H locs hWr hWc hS => ?_)
  refine lv_icmp_eq (tgt := 1194) hx hb dL_law_826 (by decide) (fun _ => ?_) (fun hc => absurd rfl hc)
  exact kk μ1 ν1 H locs hR1 hWc hWr hS
set_option maxRecDepth 100000 in
set_option maxHeartbeats 4000000 in
theorem zlc_25 {p : Program} {e : Env} {s : State} {m : MethodId} {below : List Frame} {meth : Method} {c : Code} {l : Launch} {b L : Nat} {xs : Nat → Int32} (C0 : lw_At p s m meth c b L xs) {N : Nat} {Rel : ZM → ZM → Prop} {adc adr : Nat → Nat} {D : va_G} {cA : Nat → ClassId} {AC AR : Nat → Prop} (hK1 : zk_K (adc, D, cA, zc_shp, AC) s) (hK2 : zk_K (adr, D, cA, zr_shp, AR) s) (hAC : ∀ q, AC q → s.heap.size ≤ q) (hAR : ∀ q, AR q → s.heap.size ≤ q) (hd1 : ∀ q, AR q → ¬ AC q) (hd2 : ∀ q, AC q → ¬ AR q) (hk : zl_ok Rel (f_X4_restore N 0) (f_X5_restore N 0)) {μ ν : ZM} {H : Heap} {locs : List Loc} {ls : Array Slot} {x3 : Int32} (hin : ∀ k : Nat, k < 7 → vp_in (x3 + nI k) L) (hR : Rel μ ν) (hWc : zk_W (adc, D, cA, zc_shp, AC) μ H) (hWr : zk_W (adr, D, cA, zr_shp, AR) ν H) (hS : va_S (fun q => s.heap.size ≤ q) s.heap H locs) (hl : lv_has ls 4 [(0, .ref b), (1, .ref (adc 0)), (2, .ref (adr 0)), (3, .int x3)])
    (kk : ∀ (μ1 ν1 : ZM) (H : Heap) (locs : List Loc), Rel μ1 ν1 → zk_W (adc, D, cA, zc_shp, AC) μ1 H → zk_W (adr, D, cA, zr_shp, AR) ν1 H → va_S (fun q => s.heap.size ≤ q) s.heap H locs → W p l e room_1 s m #[Value.ref b] below meth c H locs 123 1751 (lw_Z below #[Value.ref b] s) (F0 m 1194 ls [])) : W p l e room_1 s m #[Value.ref b] below meth c H locs 123 1751 (lw_Z below #[Value.ref b] s) (F0 m 831 ls []) := by
  obtain ⟨hx, hb, hr, hml, hown, hts0, hX, hbl, hlocks, hgv⟩ := id C0
  have hts : ∀ w ∈ zk_T, w.before #[Value.ref b] s = true := fun w hw => hts0 w (List.mem_filter.mp hw).1
  have hbA : ¬ (fun q : Nat => s.heap.size ≤ q) b := Nat.not_le.mpr hbl
  obtain ⟨v, μ1, ν1, hf, hg, hR1⟩ := hk μ ν hR
  refine lv_aload_n hx hb dL_law_831 rfl (lv_at hl 1 rfl) ?_
  refine zl_call (E := (adc, D, cA, zc_shp, AC)) (E2 := (adr, D, cA, zr_shp, AR)) (own := RL) (k := 0) (G := g_X4_restore N) (r := (v, μ1)) [] hx hb hml hl.1 hown hts hK1 hWc hWr hS hAC hd1 (m_X4_restore N) hf zc_ok rfl (fun w hw => by revert w; simp [zk_w]) rfl zw_457 ⟨Nat.le_of_ble_eq_true rfl, Nat.le_of_ble_eq_true rfl⟩ ⟨Nat.le_of_ble_eq_true rfl, Nat.le_of_ble_eq_true rfl⟩ rfl (Nat.le_of_ble_eq_true rfl) dL_law_832 (fun H locs hWc hWr hS => ?_)
  refine lv_aload_n hx hb dL_law_835 rfl (lv_at hl 2 rfl) ?_
  refine zl_call (E := (adr, D, cA, zr_shp, AR)) (E2 := (adc, D, cA, zc_shp, AC)) (own := RL) (k := 0) (G := g_X5_restore N) (r := (v, ν1)) [] hx hb hml hl.1 hown hts hK2 hWr hWc hS hAR hd2 (m_X5_restore N) hg zr_ok rfl (fun w hw => by revert w; simp [zk_w]) rfl zw_782 ⟨Nat.le_of_ble_eq_true rfl, Nat.le_of_ble_eq_true rfl⟩ ⟨Nat.le_of_ble_eq_true rfl, Nat.le_of_ble_eq_true rfl⟩ rfl (Nat.le_of_ble_eq_true rfl) dL_law_836 (fun H locs hWr hWc hS => ?_)
  refine lv_icmp_eq (tgt := 1194) hx hb dL_law_839 (by decide) (fun _ => ?_) (fun hc => absurd rfl hc)
  exact kk μ1 ν1 H locs hR1 hWc hWr hS
set_option maxRecDepth 100000 in
set_option maxHeartbeats 4000000 in
theorem zlc_26 {p : Program} {e : Env} {s : State} {m : MethodId} {below : List Frame} {meth : Method} {c : Code} {l : Launch} {b L : Nat} {xs : Nat → Int32} (C0 : lw_At p s m meth c b L xs) {N : Nat} {Rel : ZM → ZM → Prop} {adc adr : Nat → Nat} {D : va_G} {cA : Nat → ClassId} {AC AR : Nat → Prop} (hK1 : zk_K (adc, D, cA, zc_shp, AC) s) (hK2 : zk_K (adr, D, cA, zr_shp, AR) s) (hAC : ∀ q, AC q → s.heap.size ≤ q) (hAR : ∀ q, AR q → s.heap.size ≤ q) (hd1 : ∀ q, AR q → ¬ AC q) (hd2 : ∀ q, AC q → ¬ AR q) (hk : ∀ (a : Int32) (b : Int32) (c : Int32) (d : Int32) (e : Int32) (f : Int32), zl_ok Rel (f_X4_heard N 0 a b c d e f) (f_X5_heard N 0 a b c d e f)) {μ ν : ZM} {H : Heap} {locs : List Loc} {ls : Array Slot} {x3 : Int32} (hin : ∀ k : Nat, k < 7 → vp_in (x3 + nI k) L) (hR : Rel μ ν) (hWc : zk_W (adc, D, cA, zc_shp, AC) μ H) (hWr : zk_W (adr, D, cA, zr_shp, AR) ν H) (hS : va_S (fun q => s.heap.size ≤ q) s.heap H locs) (hl : lv_has ls 4 [(0, .ref b), (1, .ref (adc 0)), (2, .ref (adr 0)), (3, .int x3)])
    (kk : ∀ (μ1 ν1 : ZM) (H : Heap) (locs : List Loc), Rel μ1 ν1 → zk_W (adc, D, cA, zc_shp, AC) μ1 H → zk_W (adr, D, cA, zr_shp, AR) ν1 H → va_S (fun q => s.heap.size ≤ q) s.heap H locs → W p l e room_1 s m #[Value.ref b] below meth c H locs 123 1751 (lw_Z below #[Value.ref b] s) (F0 m 1194 ls [])) : W p l e room_1 s m #[Value.ref b] below meth c H locs 123 1751 (lw_Z below #[Value.ref b] s) (F0 m 844 ls []) := by
  obtain ⟨hx, hb, hr, hml, hown, hts0, hX, hbl, hlocks, hgv⟩ := id C0
  have hts : ∀ w ∈ zk_T, w.before #[Value.ref b] s = true := fun w hw => hts0 w (List.mem_filter.mp hw).1
  have hbA : ¬ (fun q : Nat => s.heap.size ≤ q) b := Nat.not_le.mpr hbl
  obtain ⟨v, μ1, ν1, hf, hg, hR1⟩ := hk (xs (x3 + 1).toNatClampNeg) (xs (x3 + 2).toNatClampNeg) (xs (x3 + 3).toNatClampNeg) (xs (x3 + 4).toNatClampNeg) (xs (x3 + 5).toNatClampNeg) (xs (x3 + 6).toNatClampNeg) μ ν hR
  refine lv_aload_n hx hb dL_law_844 rfl (lv_at hl 1 rfl) ?_
  refine lv_aload_n hx hb dL_law_845 rfl (lv_at hl 0 rfl) ?_
  refine lv_iload_n hx hb dL_law_846 rfl (lv_at hl 3 rfl) ?_
  refine lv_iconst (v := 1) hx hb dL_law_847 (by decide) ?_
  refine lv_iadd hx hb dL_law_848 ?_
  refine va_sld hx hb hX hbl hbA hS (hin 1 (by decide)) dL_law_849 ?_
  refine lv_aload_n hx hb dL_law_850 rfl (lv_at hl 0 rfl) ?_
  refine lv_iload_n hx hb dL_law_851 rfl (lv_at hl 3 rfl) ?_
  refine lv_iconst (v := 2) hx hb dL_law_852 (by decide) ?_
  refine lv_iadd hx hb dL_law_853 ?_
  refine va_sld hx hb hX hbl hbA hS (hin 2 (by decide)) dL_law_854 ?_
  refine lv_aload_n hx hb dL_law_855 rfl (lv_at hl 0 rfl) ?_
  refine lv_iload_n hx hb dL_law_856 rfl (lv_at hl 3 rfl) ?_
  refine lv_iconst (v := 3) hx hb dL_law_857 (by decide) ?_
  refine lv_iadd hx hb dL_law_858 ?_
  refine va_sld hx hb hX hbl hbA hS (hin 3 (by decide)) dL_law_859 ?_
  refine lv_aload_n hx hb dL_law_860 rfl (lv_at hl 0 rfl) ?_
  refine lv_iload_n hx hb dL_law_861 rfl (lv_at hl 3 rfl) ?_
  refine lv_iconst (v := 4) hx hb dL_law_862 (by decide) ?_
  refine lv_iadd hx hb dL_law_863 ?_
  refine va_sld hx hb hX hbl hbA hS (hin 4 (by decide)) dL_law_864 ?_
  refine lv_aload_n hx hb dL_law_865 rfl (lv_at hl 0 rfl) ?_
  refine lv_iload_n hx hb dL_law_866 rfl (lv_at hl 3 rfl) ?_
  refine lv_iconst (v := 5) hx hb dL_law_867 (by decide) ?_
  refine lv_iadd hx hb dL_law_868 ?_
  refine va_sld hx hb hX hbl hbA hS (hin 5 (by decide)) dL_law_869 ?_
  refine lv_aload_n hx hb dL_law_870 rfl (lv_at hl 0 rfl) ?_
  refine lv_iload_n hx hb dL_law_871 rfl (lv_at hl 3 rfl) ?_
  refine lv_bipush (v := 6) hx hb dL_law_872 (by decide) ?_
  refine lv_iadd hx hb dL_law_874 ?_
  refine va_sld hx hb hX hbl hbA hS (hin 6 (by decide)) dL_law_875 ?_
  refine zl_call (E := (adc, D, cA, zc_shp, AC)) (E2 := (adr, D, cA, zr_shp, AR)) (own := RL) (k := 0) (G := g_X4_heard N) (r := (v, μ1)) [.inl (xs (x3 + 1).toNatClampNeg), .inl (xs (x3 + 2).toNatClampNeg), .inl (xs (x3 + 3).toNatClampNeg), .inl (xs (x3 + 4).toNatClampNeg), .inl (xs (x3 + 5).toNatClampNeg), .inl (xs (x3 + 6).toNatClampNeg)] hx hb hml hl.1 hown hts hK1 hWc hWr hS hAC hd1 (m_X4_heard N) hf zc_ok rfl (fun w hw => by revert w; simp [zk_w]) rfl zw_461 ⟨Nat.le_of_ble_eq_true rfl, Nat.le_of_ble_eq_true rfl⟩ ⟨Nat.le_of_ble_eq_true rfl, Nat.le_of_ble_eq_true rfl⟩ rfl (Nat.le_of_ble_eq_true rfl) dL_law_876 (fun H locs hWc hWr hS => ?_)
  refine lv_aload_n hx hb dL_law_879 rfl (lv_at hl 2 rfl) ?_
  refine lv_aload_n hx hb dL_law_880 rfl (lv_at hl 0 rfl) ?_
  refine lv_iload_n hx hb dL_law_881 rfl (lv_at hl 3 rfl) ?_
  refine lv_iconst (v := 1) hx hb dL_law_882 (by decide) ?_
  refine lv_iadd hx hb dL_law_883 ?_
  refine va_sld hx hb hX hbl hbA hS (hin 1 (by decide)) dL_law_884 ?_
  refine lv_aload_n hx hb dL_law_885 rfl (lv_at hl 0 rfl) ?_
  refine lv_iload_n hx hb dL_law_886 rfl (lv_at hl 3 rfl) ?_
  refine lv_iconst (v := 2) hx hb dL_law_887 (by decide) ?_
  refine lv_iadd hx hb dL_law_888 ?_
  refine va_sld hx hb hX hbl hbA hS (hin 2 (by decide)) dL_law_889 ?_
  refine lv_aload_n hx hb dL_law_890 rfl (lv_at hl 0 rfl) ?_
  refine lv_iload_n hx hb dL_law_891 rfl (lv_at hl 3 rfl) ?_
  refine lv_iconst (v := 3) hx hb dL_law_892 (by decide) ?_
  refine lv_iadd hx hb dL_law_893 ?_
  refine va_sld hx hb hX hbl hbA hS (hin 3 (by decide)) dL_law_894 ?_
  refine lv_aload_n hx hb dL_law_895 rfl (lv_at hl 0 rfl) ?_
  refine lv_iload_n hx hb dL_law_896 rfl (lv_at hl 3 rfl) ?_
  refine lv_iconst (v := 4) hx hb dL_law_897 (by decide) ?_
  refine lv_iadd hx hb dL_law_898 ?_
  refine va_sld hx hb hX hbl hbA hS (hin 4 (by decide)) dL_law_899 ?_
  refine lv_aload_n hx hb dL_law_900 rfl (lv_at hl 0 rfl) ?_
  refine lv_iload_n hx hb dL_law_901 rfl (lv_at hl 3 rfl) ?_
  refine lv_iconst (v := 5) hx hb dL_law_902 (by decide) ?_
  refine lv_iadd hx hb dL_law_903 ?_
  refine va_sld hx hb hX hbl hbA hS (hin 5 (by decide)) dL_law_904 ?_
  refine lv_aload_n hx hb dL_law_905 rfl (lv_at hl 0 rfl) ?_
  refine lv_iload_n hx hb dL_law_906 rfl (lv_at hl 3 rfl) ?_
  refine lv_bipush (v := 6) hx hb dL_law_907 (by decide) ?_
  refine lv_iadd hx hb dL_law_909 ?_
  refine va_sld hx hb hX hbl hbA hS (hin 6 (by decide)) dL_law_910 ?_
  refine zl_call (E := (adr, D, cA, zr_shp, AR)) (E2 := (adc, D, cA, zc_shp, AC)) (own := RL) (k := 0) (G := g_X5_heard N) (r := (v, ν1)) [.inl (xs (x3 + 1).toNatClampNeg), .inl (xs (x3 + 2).toNatClampNeg), .inl (xs (x3 + 3).toNatClampNeg), .inl (xs (x3 + 4).toNatClampNeg), .inl (xs (x3 + 5).toNatClampNeg), .inl (xs (x3 + 6).toNatClampNeg)] hx hb hml hl.1 hown hts hK2 hWr hWc hS hAR hd2 (m_X5_heard N) hg zr_ok rfl (fun w hw => by revert w; simp [zk_w]) rfl zw_786 ⟨Nat.le_of_ble_eq_true rfl, Nat.le_of_ble_eq_true rfl⟩ ⟨Nat.le_of_ble_eq_true rfl, Nat.le_of_ble_eq_true rfl⟩ rfl (Nat.le_of_ble_eq_true rfl) dL_law_911 (fun H locs hWr hWc hS => ?_)
  refine lv_icmp_eq (tgt := 1194) hx hb dL_law_914 (by decide) (fun _ => ?_) (fun hc => absurd rfl hc)
  exact kk μ1 ν1 H locs hR1 hWc hWr hS
set_option maxRecDepth 100000 in
set_option maxHeartbeats 4000000 in
theorem zlc_27 {p : Program} {e : Env} {s : State} {m : MethodId} {below : List Frame} {meth : Method} {c : Code} {l : Launch} {b L : Nat} {xs : Nat → Int32} (C0 : lw_At p s m meth c b L xs) {N : Nat} {Rel : ZM → ZM → Prop} {adc adr : Nat → Nat} {D : va_G} {cA : Nat → ClassId} {AC AR : Nat → Prop} (hK1 : zk_K (adc, D, cA, zc_shp, AC) s) (hK2 : zk_K (adr, D, cA, zr_shp, AR) s) (hAC : ∀ q, AC q → s.heap.size ≤ q) (hAR : ∀ q, AR q → s.heap.size ≤ q) (hd1 : ∀ q, AR q → ¬ AC q) (hd2 : ∀ q, AC q → ¬ AR q) (hk : ∀ (a : Int32) (b : Int32) (c : Int32) (d : Int32) (e : Int32), zl_ok Rel (f_X4_film N 0 a b c d e) (f_X5_film N 0 a b c d e)) {μ ν : ZM} {H : Heap} {locs : List Loc} {ls : Array Slot} {x3 : Int32} (hin : ∀ k : Nat, k < 7 → vp_in (x3 + nI k) L) (hR : Rel μ ν) (hWc : zk_W (adc, D, cA, zc_shp, AC) μ H) (hWr : zk_W (adr, D, cA, zr_shp, AR) ν H) (hS : va_S (fun q => s.heap.size ≤ q) s.heap H locs) (hl : lv_has ls 4 [(0, .ref b), (1, .ref (adc 0)), (2, .ref (adr 0)), (3, .int x3)])
    (kk : ∀ (μ1 ν1 : ZM) (H : Heap) (locs : List Loc), Rel μ1 ν1 → zk_W (adc, D, cA, zc_shp, AC) μ1 H → zk_W (adr, D, cA, zr_shp, AR) ν1 H → va_S (fun q => s.heap.size ≤ q) s.heap H locs → W p l e room_1 s m #[Value.ref b] below meth c H locs 123 1751 (lw_Z below #[Value.ref b] s) (F0 m 1194 ls [])) : W p l e room_1 s m #[Value.ref b] below meth c H locs 123 1751 (lw_Z below #[Value.ref b] s) (F0 m 919 ls []) := by
  obtain ⟨hx, hb, hr, hml, hown, hts0, hX, hbl, hlocks, hgv⟩ := id C0
  have hts : ∀ w ∈ zk_T, w.before #[Value.ref b] s = true := fun w hw => hts0 w (List.mem_filter.mp hw).1
  have hbA : ¬ (fun q : Nat => s.heap.size ≤ q) b := Nat.not_le.mpr hbl
  obtain ⟨v, μ1, ν1, hf, hg, hR1⟩ := hk (xs (x3 + 1).toNatClampNeg) (xs (x3 + 2).toNatClampNeg) (xs (x3 + 3).toNatClampNeg) (xs (x3 + 4).toNatClampNeg) (xs (x3 + 5).toNatClampNeg) μ ν hR
  refine lv_aload_n hx hb dL_law_919 rfl (lv_at hl 1 rfl) ?_
  refine lv_aload_n hx hb dL_law_920 rfl (lv_at hl 0 rfl) ?_
  refine lv_iload_n hx hb dL_law_921 rfl (lv_at hl 3 rfl) ?_
  refine lv_iconst (v := 1) hx hb dL_law_922 (by decide) ?_
  refine lv_iadd hx hb dL_law_923 ?_
  refine va_sld hx hb hX hbl hbA hS (hin 1 (by decide)) dL_law_924 ?_
  refine lv_aload_n hx hb dL_law_925 rfl (lv_at hl 0 rfl) ?_
  refine lv_iload_n hx hb dL_law_926 rfl (lv_at hl 3 rfl) ?_
  refine lv_iconst (v := 2) hx hb dL_law_927 (by decide) ?_
  refine lv_iadd hx hb dL_law_928 ?_
  refine va_sld hx hb hX hbl hbA hS (hin 2 (by decide)) dL_law_929 ?_
  refine lv_aload_n hx hb dL_law_930 rfl (lv_at hl 0 rfl) ?_
  refine lv_iload_n hx hb dL_law_931 rfl (lv_at hl 3 rfl) ?_
  refine lv_iconst (v := 3) hx hb dL_law_932 (by decide) ?_
  refine lv_iadd hx hb dL_law_933 ?_
  refine va_sld hx hb hX hbl hbA hS (hin 3 (by decide)) dL_law_934 ?_
  refine lv_aload_n hx hb dL_law_935 rfl (lv_at hl 0 rfl) ?_
  refine lv_iload_n hx hb dL_law_936 rfl (lv_at hl 3 rfl) ?_
  refine lv_iconst (v := 4) hx hb dL_law_937 (by decide) ?_
  refine lv_iadd hx hb dL_law_938 ?_
  refine va_sld hx hb hX hbl hbA hS (hin 4 (by decide)) dL_law_939 ?_
  refine lv_aload_n hx hb dL_law_940 rfl (lv_at hl 0 rfl) ?_
  refine lv_iload_n hx hb dL_law_941 rfl (lv_at hl 3 rfl) ?_
  refine lv_iconst (v := 5) hx hb dL_law_942 (by decide) ?_
  refine lv_iadd hx hb dL_law_943 ?_
  refine va_sld hx hb hX hbl hbA hS (hin 5 (by decide)) dL_law_944 ?_
  refine zl_call (E := (adc, D, cA, zc_shp, AC)) (E2 := (adr, D, cA, zr_shp, AR)) (own := RL) (k := 0) (G := g_X4_film N) (r := (v, μ1)) [.inl (xs (x3 + 1).toNatClampNeg), .inl (xs (x3 + 2).toNatClampNeg), .inl (xs (x3 + 3).toNatClampNeg), .inl (xs (x3 + 4).toNatClampNeg), .inl (xs (x3 + 5).toNatClampNeg)] hx hb hml hl.1 hown hts hK1 hWc hWr hS hAC hd1 (m_X4_film N) hf zc_ok rfl (fun w hw => by revert w; simp [zk_w]) rfl zw_503 ⟨Nat.le_of_ble_eq_true rfl, Nat.le_of_ble_eq_true rfl⟩ ⟨Nat.le_of_ble_eq_true rfl, Nat.le_of_ble_eq_true rfl⟩ rfl (Nat.le_of_ble_eq_true rfl) dL_law_945 (fun H locs hWc hWr hS => ?_)
  refine lv_aload_n hx hb dL_law_948 rfl (lv_at hl 2 rfl) ?_
  refine lv_aload_n hx hb dL_law_949 rfl (lv_at hl 0 rfl) ?_
  refine lv_iload_n hx hb dL_law_950 rfl (lv_at hl 3 rfl) ?_
  refine lv_iconst (v := 1) hx hb dL_law_951 (by decide) ?_
  refine lv_iadd hx hb dL_law_952 ?_
  refine va_sld hx hb hX hbl hbA hS (hin 1 (by decide)) dL_law_953 ?_
  refine lv_aload_n hx hb dL_law_954 rfl (lv_at hl 0 rfl) ?_
  refine lv_iload_n hx hb dL_law_955 rfl (lv_at hl 3 rfl) ?_
  refine lv_iconst (v := 2) hx hb dL_law_956 (by decide) ?_
  refine lv_iadd hx hb dL_law_957 ?_
  refine va_sld hx hb hX hbl hbA hS (hin 2 (by decide)) dL_law_958 ?_
  refine lv_aload_n hx hb dL_law_959 rfl (lv_at hl 0 rfl) ?_
  refine lv_iload_n hx hb dL_law_960 rfl (lv_at hl 3 rfl) ?_
  refine lv_iconst (v := 3) hx hb dL_law_961 (by decide) ?_
  refine lv_iadd hx hb dL_law_962 ?_
  refine va_sld hx hb hX hbl hbA hS (hin 3 (by decide)) dL_law_963 ?_
  refine lv_aload_n hx hb dL_law_964 rfl (lv_at hl 0 rfl) ?_
  refine lv_iload_n hx hb dL_law_965 rfl (lv_at hl 3 rfl) ?_
  refine lv_iconst (v := 4) hx hb dL_law_966 (by decide) ?_
  refine lv_iadd hx hb dL_law_967 ?_
  refine va_sld hx hb hX hbl hbA hS (hin 4 (by decide)) dL_law_968 ?_
  refine lv_aload_n hx hb dL_law_969 rfl (lv_at hl 0 rfl) ?_
  refine lv_iload_n hx hb dL_law_970 rfl (lv_at hl 3 rfl) ?_
  refine lv_iconst (v := 5) hx hb dL_law_971 (by decide) ?_
  refine lv_iadd hx hb dL_law_972 ?_
  refine va_sld hx hb hX hbl hbA hS (hin 5 (by decide)) dL_law_973 ?_
  refine zl_call (E := (adr, D, cA, zr_shp, AR)) (E2 := (adc, D, cA, zc_shp, AC)) (own := RL) (k := 0) (G := g_X5_film N) (r := (v, ν1)) [.inl (xs (x3 + 1).toNatClampNeg), .inl (xs (x3 + 2).toNatClampNeg), .inl (xs (x3 + 3).toNatClampNeg), .inl (xs (x3 + 4).toNatClampNeg), .inl (xs (x3 + 5).toNatClampNeg)] hx hb hml hl.1 hown hts hK2 hWr hWc hS hAR hd2 (m_X5_film N) hg zr_ok rfl (fun w hw => by revert w; simp [zk_w]) rfl zw_801 ⟨Nat.le_of_ble_eq_true rfl, Nat.le_of_ble_eq_true rfl⟩ ⟨Nat.le_of_ble_eq_true rfl, Nat.le_of_ble_eq_true rfl⟩ rfl (Nat.le_of_ble_eq_true rfl) dL_law_974 (fun H locs hWr hWc hS => ?_)
  refine lv_icmp_eq (tgt := 1194) hx hb dL_law_977 (by decide) (fun _ => ?_) (fun hc => absurd rfl hc)
  exact kk μ1 ν1 H locs hR1 hWc hWr hS
set_option maxRecDepth 100000 in
set_option maxHeartbeats 4000000 in
theorem zlc_28 {p : Program} {e : Env} {s : State} {m : MethodId} {below : List Frame} {meth : Method} {c : Code} {l : Launch} {b L : Nat} {xs : Nat → Int32} (C0 : lw_At p s m meth c b L xs) {N : Nat} {Rel : ZM → ZM → Prop} {adc adr : Nat → Nat} {D : va_G} {cA : Nat → ClassId} {AC AR : Nat → Prop} (hK1 : zk_K (adc, D, cA, zc_shp, AC) s) (hK2 : zk_K (adr, D, cA, zr_shp, AR) s) (hAC : ∀ q, AC q → s.heap.size ≤ q) (hAR : ∀ q, AR q → s.heap.size ≤ q) (hd1 : ∀ q, AR q → ¬ AC q) (hd2 : ∀ q, AC q → ¬ AR q) (hk : ∀ (a : Int32) (b : Int32) (c : Int32), zl_ok Rel (f_X4_sheet N 0 a b c) (f_X5_sheet N 0 a b c)) {μ ν : ZM} {H : Heap} {locs : List Loc} {ls : Array Slot} {x3 : Int32} (hin : ∀ k : Nat, k < 7 → vp_in (x3 + nI k) L) (hR : Rel μ ν) (hWc : zk_W (adc, D, cA, zc_shp, AC) μ H) (hWr : zk_W (adr, D, cA, zr_shp, AR) ν H) (hS : va_S (fun q => s.heap.size ≤ q) s.heap H locs) (hl : lv_has ls 4 [(0, .ref b), (1, .ref (adc 0)), (2, .ref (adr 0)), (3, .int x3)])
    (kk : ∀ (μ1 ν1 : ZM) (H : Heap) (locs : List Loc), Rel μ1 ν1 → zk_W (adc, D, cA, zc_shp, AC) μ1 H → zk_W (adr, D, cA, zr_shp, AR) ν1 H → va_S (fun q => s.heap.size ≤ q) s.heap H locs → W p l e room_1 s m #[Value.ref b] below meth c H locs 123 1751 (lw_Z below #[Value.ref b] s) (F0 m 1194 ls [])) : W p l e room_1 s m #[Value.ref b] below meth c H locs 123 1751 (lw_Z below #[Value.ref b] s) (F0 m 982 ls []) := by
  obtain ⟨hx, hb, hr, hml, hown, hts0, hX, hbl, hlocks, hgv⟩ := id C0
  have hts : ∀ w ∈ zk_T, w.before #[Value.ref b] s = true := fun w hw => hts0 w (List.mem_filter.mp hw).1
  have hbA : ¬ (fun q : Nat => s.heap.size ≤ q) b := Nat.not_le.mpr hbl
  obtain ⟨v, μ1, ν1, hf, hg, hR1⟩ := hk (xs (x3 + 1).toNatClampNeg) (xs (x3 + 2).toNatClampNeg) (xs (x3 + 3).toNatClampNeg) μ ν hR
  refine lv_aload_n hx hb dL_law_982 rfl (lv_at hl 1 rfl) ?_
  refine lv_aload_n hx hb dL_law_983 rfl (lv_at hl 0 rfl) ?_
  refine lv_iload_n hx hb dL_law_984 rfl (lv_at hl 3 rfl) ?_
  refine lv_iconst (v := 1) hx hb dL_law_985 (by decide) ?_
  refine lv_iadd hx hb dL_law_986 ?_
  refine va_sld hx hb hX hbl hbA hS (hin 1 (by decide)) dL_law_987 ?_
  refine lv_aload_n hx hb dL_law_988 rfl (lv_at hl 0 rfl) ?_
  refine lv_iload_n hx hb dL_law_989 rfl (lv_at hl 3 rfl) ?_
  refine lv_iconst (v := 2) hx hb dL_law_990 (by decide) ?_
  refine lv_iadd hx hb dL_law_991 ?_
  refine va_sld hx hb hX hbl hbA hS (hin 2 (by decide)) dL_law_992 ?_
  refine lv_aload_n hx hb dL_law_993 rfl (lv_at hl 0 rfl) ?_
  refine lv_iload_n hx hb dL_law_994 rfl (lv_at hl 3 rfl) ?_
  refine lv_iconst (v := 3) hx hb dL_law_995 (by decide) ?_
  refine lv_iadd hx hb dL_law_996 ?_
  refine va_sld hx hb hX hbl hbA hS (hin 3 (by decide)) dL_law_997 ?_
  refine zl_call (E := (adc, D, cA, zc_shp, AC)) (E2 := (adr, D, cA, zr_shp, AR)) (own := RL) (k := 0) (G := g_X4_sheet N) (r := (v, μ1)) [.inl (xs (x3 + 1).toNatClampNeg), .inl (xs (x3 + 2).toNatClampNeg), .inl (xs (x3 + 3).toNatClampNeg)] hx hb hml hl.1 hown hts hK1 hWc hWr hS hAC hd1 (m_X4_sheet N) hf zc_ok rfl (fun w hw => by revert w; simp [zk_w]) rfl zw_515 ⟨Nat.le_of_ble_eq_true rfl, Nat.le_of_ble_eq_true rfl⟩ ⟨Nat.le_of_ble_eq_true rfl, Nat.le_of_ble_eq_true rfl⟩ rfl (Nat.le_of_ble_eq_true rfl) dL_law_998 (fun H locs hWc hWr hS => ?_)
  refine lv_aload_n hx hb dL_law_1001 rfl (lv_at hl 2 rfl) ?_
  refine lv_aload_n hx hb dL_law_1002 rfl (lv_at hl 0 rfl) ?_
  refine lv_iload_n hx hb dL_law_1003 rfl (lv_at hl 3 rfl) ?_
  refine lv_iconst (v := 1) hx hb dL_law_1004 (by decide) ?_
  refine lv_iadd hx hb dL_law_1005 ?_
  refine va_sld hx hb hX hbl hbA hS (hin 1 (by decide)) dL_law_1006 ?_
  refine lv_aload_n hx hb dL_law_1007 rfl (lv_at hl 0 rfl) ?_
  refine lv_iload_n hx hb dL_law_1008 rfl (lv_at hl 3 rfl) ?_
  refine lv_iconst (v := 2) hx hb dL_law_1009 (by decide) ?_
  refine lv_iadd hx hb dL_law_1010 ?_
  refine va_sld hx hb hX hbl hbA hS (hin 2 (by decide)) dL_law_1011 ?_
  refine lv_aload_n hx hb dL_law_1012 rfl (lv_at hl 0 rfl) ?_
  refine lv_iload_n hx hb dL_law_1013 rfl (lv_at hl 3 rfl) ?_
  refine lv_iconst (v := 3) hx hb dL_law_1014 (by decide) ?_
  refine lv_iadd hx hb dL_law_1015 ?_
  refine va_sld hx hb hX hbl hbA hS (hin 3 (by decide)) dL_law_1016 ?_
  refine zl_call (E := (adr, D, cA, zr_shp, AR)) (E2 := (adc, D, cA, zc_shp, AC)) (own := RL) (k := 0) (G := g_X5_sheet N) (r := (v, ν1)) [.inl (xs (x3 + 1).toNatClampNeg), .inl (xs (x3 + 2).toNatClampNeg), .inl (xs (x3 + 3).toNatClampNeg)] hx hb hml hl.1 hown hts hK2 hWr hWc hS hAR hd2 (m_X5_sheet N) hg zr_ok rfl (fun w hw => by revert w; simp [zk_w]) rfl zw_805 ⟨Nat.le_of_ble_eq_true rfl, Nat.le_of_ble_eq_true rfl⟩ ⟨Nat.le_of_ble_eq_true rfl, Nat.le_of_ble_eq_true rfl⟩ rfl (Nat.le_of_ble_eq_true rfl) dL_law_1017 (fun H locs hWr hWc hS => ?_)
  refine lv_icmp_eq (tgt := 1194) hx hb dL_law_1020 (by decide) (fun _ => ?_) (fun hc => absurd rfl hc)
  exact kk μ1 ν1 H locs hR1 hWc hWr hS
set_option maxRecDepth 100000 in
set_option maxHeartbeats 4000000 in
theorem zlc_29 {p : Program} {e : Env} {s : State} {m : MethodId} {below : List Frame} {meth : Method} {c : Code} {l : Launch} {b L : Nat} {xs : Nat → Int32} (C0 : lw_At p s m meth c b L xs) {N : Nat} {Rel : ZM → ZM → Prop} {adc adr : Nat → Nat} {D : va_G} {cA : Nat → ClassId} {AC AR : Nat → Prop} (hK1 : zk_K (adc, D, cA, zc_shp, AC) s) (hK2 : zk_K (adr, D, cA, zr_shp, AR) s) (hAC : ∀ q, AC q → s.heap.size ≤ q) (hAR : ∀ q, AR q → s.heap.size ≤ q) (hd1 : ∀ q, AR q → ¬ AC q) (hd2 : ∀ q, AC q → ¬ AR q) (hk : ∀ (a : Int32), zl_ok Rel (f_X4_drop N 0 a) (f_X5_drop N 0 a)) {μ ν : ZM} {H : Heap} {locs : List Loc} {ls : Array Slot} {x3 : Int32} (hin : ∀ k : Nat, k < 7 → vp_in (x3 + nI k) L) (hR : Rel μ ν) (hWc : zk_W (adc, D, cA, zc_shp, AC) μ H) (hWr : zk_W (adr, D, cA, zr_shp, AR) ν H) (hS : va_S (fun q => s.heap.size ≤ q) s.heap H locs) (hl : lv_has ls 4 [(0, .ref b), (1, .ref (adc 0)), (2, .ref (adr 0)), (3, .int x3)])
    (kk : ∀ (μ1 ν1 : ZM) (H : Heap) (locs : List Loc), Rel μ1 ν1 → zk_W (adc, D, cA, zc_shp, AC) μ1 H → zk_W (adr, D, cA, zr_shp, AR) ν1 H → va_S (fun q => s.heap.size ≤ q) s.heap H locs → W p l e room_1 s m #[Value.ref b] below meth c H locs 123 1751 (lw_Z below #[Value.ref b] s) (F0 m 1194 ls [])) : W p l e room_1 s m #[Value.ref b] below meth c H locs 123 1751 (lw_Z below #[Value.ref b] s) (F0 m 1025 ls []) := by
  obtain ⟨hx, hb, hr, hml, hown, hts0, hX, hbl, hlocks, hgv⟩ := id C0
  have hts : ∀ w ∈ zk_T, w.before #[Value.ref b] s = true := fun w hw => hts0 w (List.mem_filter.mp hw).1
  have hbA : ¬ (fun q : Nat => s.heap.size ≤ q) b := Nat.not_le.mpr hbl
  obtain ⟨v, μ1, ν1, hf, hg, hR1⟩ := hk (xs (x3 + 1).toNatClampNeg) μ ν hR
  refine lv_aload_n hx hb dL_law_1025 rfl (lv_at hl 1 rfl) ?_
  refine lv_aload_n hx hb dL_law_1026 rfl (lv_at hl 0 rfl) ?_
  refine lv_iload_n hx hb dL_law_1027 rfl (lv_at hl 3 rfl) ?_
  refine lv_iconst (v := 1) hx hb dL_law_1028 (by decide) ?_
  refine lv_iadd hx hb dL_law_1029 ?_
  refine va_sld hx hb hX hbl hbA hS (hin 1 (by decide)) dL_law_1030 ?_
  refine zl_call (E := (adc, D, cA, zc_shp, AC)) (E2 := (adr, D, cA, zr_shp, AR)) (own := RL) (k := 0) (G := g_X4_drop N) (r := (v, μ1)) [.inl (xs (x3 + 1).toNatClampNeg)] hx hb hml hl.1 hown hts hK1 hWc hWr hS hAC hd1 (m_X4_drop N) hf zc_ok rfl (fun w hw => by revert w; simp [zk_w]) rfl zw_523 ⟨Nat.le_of_ble_eq_true rfl, Nat.le_of_ble_eq_true rfl⟩ ⟨Nat.le_of_ble_eq_true rfl, Nat.le_of_ble_eq_true rfl⟩ rfl (Nat.le_of_ble_eq_true rfl) dL_law_1031 (fun H locs hWc hWr hS => ?_)
  refine lv_aload_n hx hb dL_law_1034 rfl (lv_at hl 2 rfl) ?_
  refine lv_aload_n hx hb dL_law_1035 rfl (lv_at hl 0 rfl) ?_
  refine lv_iload_n hx hb dL_law_1036 rfl (lv_at hl 3 rfl) ?_
  refine lv_iconst (v := 1) hx hb dL_law_1037 (by decide) ?_
  refine lv_iadd hx hb dL_law_1038 ?_
  refine va_sld hx hb hX hbl hbA hS (hin 1 (by decide)) dL_law_1039 ?_
  refine zl_call (E := (adr, D, cA, zr_shp, AR)) (E2 := (adc, D, cA, zc_shp, AC)) (own := RL) (k := 0) (G := g_X5_drop N) (r := (v, ν1)) [.inl (xs (x3 + 1).toNatClampNeg)] hx hb hml hl.1 hown hts hK2 hWr hWc hS hAR hd2 (m_X5_drop N) hg zr_ok rfl (fun w hw => by revert w; simp [zk_w]) rfl zw_809 ⟨Nat.le_of_ble_eq_true rfl, Nat.le_of_ble_eq_true rfl⟩ ⟨Nat.le_of_ble_eq_true rfl, Nat.le_of_ble_eq_true rfl⟩ rfl (Nat.le_of_ble_eq_true rfl) dL_law_1040 (fun H locs hWr hWc hS => ?_)
  refine lv_icmp_eq (tgt := 1194) hx hb dL_law_1043 (by decide) (fun _ => ?_) (fun hc => absurd rfl hc)
  exact kk μ1 ν1 H locs hR1 hWc hWr hS
set_option maxRecDepth 100000 in
set_option maxHeartbeats 4000000 in
theorem zlc_30 {p : Program} {e : Env} {s : State} {m : MethodId} {below : List Frame} {meth : Method} {c : Code} {l : Launch} {b L : Nat} {xs : Nat → Int32} (C0 : lw_At p s m meth c b L xs) {N : Nat} {Rel : ZM → ZM → Prop} {adc adr : Nat → Nat} {D : va_G} {cA : Nat → ClassId} {AC AR : Nat → Prop} (hK1 : zk_K (adc, D, cA, zc_shp, AC) s) (hK2 : zk_K (adr, D, cA, zr_shp, AR) s) (hAC : ∀ q, AC q → s.heap.size ≤ q) (hAR : ∀ q, AR q → s.heap.size ≤ q) (hd1 : ∀ q, AR q → ¬ AC q) (hd2 : ∀ q, AC q → ¬ AR q) (hk : ∀ (a : Int32) (b : Int32) (c : Int32) (d : Int64), zl_ok Rel (f_X4_item N 0 a b c d) (f_X5_item N 0 a b c d)) {μ ν : ZM} {H : Heap} {locs : List Loc} {ls : Array Slot} {x3 : Int32} (hin : ∀ k : Nat, k < 7 → vp_in (x3 + nI k) L) (hR : Rel μ ν) (hWc : zk_W (adc, D, cA, zc_shp, AC) μ H) (hWr : zk_W (adr, D, cA, zr_shp, AR) ν H) (hS : va_S (fun q => s.heap.size ≤ q) s.heap H locs) (hl : lv_has ls 4 [(0, .ref b), (1, .ref (adc 0)), (2, .ref (adr 0)), (3, .int x3)])
    (kk : ∀ (μ1 ν1 : ZM) (H : Heap) (locs : List Loc), Rel μ1 ν1 → zk_W (adc, D, cA, zc_shp, AC) μ1 H → zk_W (adr, D, cA, zr_shp, AR) ν1 H → va_S (fun q => s.heap.size ≤ q) s.heap H locs → W p l e room_1 s m #[Value.ref b] below meth c H locs 123 1751 (lw_Z below #[Value.ref b] s) (F0 m 1194 ls [])) : W p l e room_1 s m #[Value.ref b] below meth c H locs 123 1751 (lw_Z below #[Value.ref b] s) (F0 m 1048 ls []) := by
  obtain ⟨hx, hb, hr, hml, hown, hts0, hX, hbl, hlocks, hgv⟩ := id C0
  have hts : ∀ w ∈ zk_T, w.before #[Value.ref b] s = true := fun w hw => hts0 w (List.mem_filter.mp hw).1
  have hbA : ¬ (fun q : Nat => s.heap.size ≤ q) b := Nat.not_le.mpr hbl
  obtain ⟨v, μ1, ν1, hf, hg, hR1⟩ := hk (xs (x3 + 1).toNatClampNeg) (xs (x3 + 2).toNatClampNeg) (xs (x3 + 3).toNatClampNeg) ((((xs (x3 + 4).toNatClampNeg).toInt64) <<< ((32 : Int32).toInt64 &&& 63)) ||| (((xs (x3 + 5).toNatClampNeg).toInt64) &&& 4294967295)) μ ν hR
  refine lv_aload_n hx hb dL_law_1048 rfl (lv_at hl 1 rfl) ?_
  refine lv_aload_n hx hb dL_law_1049 rfl (lv_at hl 0 rfl) ?_
  refine lv_iload_n hx hb dL_law_1050 rfl (lv_at hl 3 rfl) ?_
  refine lv_iconst (v := 1) hx hb dL_law_1051 (by decide) ?_
  refine lv_iadd hx hb dL_law_1052 ?_
  refine va_sld hx hb hX hbl hbA hS (hin 1 (by decide)) dL_law_1053 ?_
  refine lv_aload_n hx hb dL_law_1054 rfl (lv_at hl 0 rfl) ?_
  refine lv_iload_n hx hb dL_law_1055 rfl (lv_at hl 3 rfl) ?_
  refine lv_iconst (v := 2) hx hb dL_law_1056 (by decide) ?_
  refine lv_iadd hx hb dL_law_1057 ?_
  refine va_sld hx hb hX hbl hbA hS (hin 2 (by decide)) dL_law_1058 ?_
  refine lv_aload_n hx hb dL_law_1059 rfl (lv_at hl 0 rfl) ?_
  refine lv_iload_n hx hb dL_law_1060 rfl (lv_at hl 3 rfl) ?_
  refine lv_iconst (v := 3) hx hb dL_law_1061 (by decide) ?_
  refine lv_iadd hx hb dL_law_1062 ?_
  refine va_sld hx hb hX hbl hbA hS (hin 3 (by decide)) dL_law_1063 ?_
  refine lv_aload_n hx hb dL_law_1064 rfl (lv_at hl 0 rfl) ?_
  refine lv_iload_n hx hb dL_law_1065 rfl (lv_at hl 3 rfl) ?_
  refine lv_iconst (v := 4) hx hb dL_law_1066 (by decide) ?_
  refine lv_iadd hx hb dL_law_1067 ?_
  refine va_sld hx hb hX hbl hbA hS (hin 4 (by decide)) dL_law_1068 ?_
  refine lv_i2l hx hb dL_law_1069 rfl ?_
  refine lv_bipush (v := 32) hx hb dL_law_1070 (by decide) ?_
  refine lv_lshl hx hb dL_law_1072 rfl ?_
  refine lv_aload_n hx hb dL_law_1073 rfl (lv_at hl 0 rfl) ?_
  refine lv_iload_n hx hb dL_law_1074 rfl (lv_at hl 3 rfl) ?_
  refine lv_iconst (v := 5) hx hb dL_law_1075 (by decide) ?_
  refine lv_iadd hx hb dL_law_1076 ?_
  refine va_sld hx hb hX hbl hbA hS (hin 5 (by decide)) dL_law_1077 ?_
  refine lv_i2l hx hb dL_law_1078 rfl ?_
  refine lv_ldc2 (own := RL) (v := 4294967295) hx hb hown (hts _ zw_824) dL_law_1079 ?_
  refine lv_land hx hb dL_law_1082 ?_
  refine lv_lor hx hb dL_law_1083 ?_
  refine zl_call (E := (adc, D, cA, zc_shp, AC)) (E2 := (adr, D, cA, zr_shp, AR)) (own := RL) (k := 0) (G := g_X4_item N) (r := (v, μ1)) [.inl (xs (x3 + 1).toNatClampNeg), .inl (xs (x3 + 2).toNatClampNeg), .inl (xs (x3 + 3).toNatClampNeg), .inr (.inl ((((xs (x3 + 4).toNatClampNeg).toInt64) <<< ((32 : Int32).toInt64 &&& 63)) ||| (((xs (x3 + 5).toNatClampNeg).toInt64) &&& 4294967295)))] hx hb hml hl.1 hown hts hK1 hWc hWr hS hAC hd1 (m_X4_item N) hf zc_ok rfl (fun w hw => by revert w; simp [zk_w]) rfl zw_527 ⟨Nat.le_of_ble_eq_true rfl, Nat.le_of_ble_eq_true rfl⟩ ⟨Nat.le_of_ble_eq_true rfl, Nat.le_of_ble_eq_true rfl⟩ rfl (Nat.le_of_ble_eq_true rfl) dL_law_1084 (fun H locs hWc hWr hS => ?_)
  refine lv_aload_n hx hb dL_law_1087 rfl (lv_at hl 2 rfl) ?_
  refine lv_aload_n hx hb dL_law_1088 rfl (lv_at hl 0 rfl) ?_
  refine lv_iload_n hx hb dL_law_1089 rfl (lv_at hl 3 rfl) ?_
  refine lv_iconst (v := 1) hx hb dL_law_1090 (by decide) ?_
  refine lv_iadd hx hb dL_law_1091 ?_
  refine va_sld hx hb hX hbl hbA hS (hin 1 (by decide)) dL_law_1092 ?_
  refine lv_aload_n hx hb dL_law_1093 rfl (lv_at hl 0 rfl) ?_
  refine lv_iload_n hx hb dL_law_1094 rfl (lv_at hl 3 rfl) ?_
  refine lv_iconst (v := 2) hx hb dL_law_1095 (by decide) ?_
  refine lv_iadd hx hb dL_law_1096 ?_
  refine va_sld hx hb hX hbl hbA hS (hin 2 (by decide)) dL_law_1097 ?_
  refine lv_aload_n hx hb dL_law_1098 rfl (lv_at hl 0 rfl) ?_
  refine lv_iload_n hx hb dL_law_1099 rfl (lv_at hl 3 rfl) ?_
  refine lv_iconst (v := 3) hx hb dL_law_1100 (by decide) ?_
  refine lv_iadd hx hb dL_law_1101 ?_
  refine va_sld hx hb hX hbl hbA hS (hin 3 (by decide)) dL_law_1102 ?_
  refine lv_aload_n hx hb dL_law_1103 rfl (lv_at hl 0 rfl) ?_
  refine lv_iload_n hx hb dL_law_1104 rfl (lv_at hl 3 rfl) ?_
  refine lv_iconst (v := 4) hx hb dL_law_1105 (by decide) ?_
  refine lv_iadd hx hb dL_law_1106 ?_
  refine va_sld hx hb hX hbl hbA hS (hin 4 (by decide)) dL_law_1107 ?_
  refine lv_i2l hx hb dL_law_1108 rfl ?_
  refine lv_bipush (v := 32) hx hb dL_law_1109 (by decide) ?_
  refine lv_lshl hx hb dL_law_1111 rfl ?_
  refine lv_aload_n hx hb dL_law_1112 rfl (lv_at hl 0 rfl) ?_
  refine lv_iload_n hx hb dL_law_1113 rfl (lv_at hl 3 rfl) ?_
  refine lv_iconst (v := 5) hx hb dL_law_1114 (by decide) ?_
  refine lv_iadd hx hb dL_law_1115 ?_
  refine va_sld hx hb hX hbl hbA hS (hin 5 (by decide)) dL_law_1116 ?_
  refine lv_i2l hx hb dL_law_1117 rfl ?_
  refine lv_ldc2 (own := RL) (v := 4294967295) hx hb hown (hts _ zw_824) dL_law_1118 ?_
  refine lv_land hx hb dL_law_1121 ?_
  refine lv_lor hx hb dL_law_1122 ?_
  refine zl_call (E := (adr, D, cA, zr_shp, AR)) (E2 := (adc, D, cA, zc_shp, AC)) (own := RL) (k := 0) (G := g_X5_item N) (r := (v, ν1)) [.inl (xs (x3 + 1).toNatClampNeg), .inl (xs (x3 + 2).toNatClampNeg), .inl (xs (x3 + 3).toNatClampNeg), .inr (.inl ((((xs (x3 + 4).toNatClampNeg).toInt64) <<< ((32 : Int32).toInt64 &&& 63)) ||| (((xs (x3 + 5).toNatClampNeg).toInt64) &&& 4294967295)))] hx hb hml hl.1 hown hts hK2 hWr hWc hS hAR hd2 (m_X5_item N) hg zr_ok rfl (fun w hw => by revert w; simp [zk_w]) rfl zw_813 ⟨Nat.le_of_ble_eq_true rfl, Nat.le_of_ble_eq_true rfl⟩ ⟨Nat.le_of_ble_eq_true rfl, Nat.le_of_ble_eq_true rfl⟩ rfl (Nat.le_of_ble_eq_true rfl) dL_law_1123 (fun H locs hWr hWc hS => ?_)
  refine lv_icmp_eq (tgt := 1194) hx hb dL_law_1126 (by decide) (fun _ => ?_) (fun hc => absurd rfl hc)
  exact kk μ1 ν1 H locs hR1 hWc hWr hS
set_option maxRecDepth 100000 in
set_option maxHeartbeats 4000000 in
theorem zlc_31 {p : Program} {e : Env} {s : State} {m : MethodId} {below : List Frame} {meth : Method} {c : Code} {l : Launch} {b L : Nat} {xs : Nat → Int32} (C0 : lw_At p s m meth c b L xs) {N : Nat} {Rel : ZM → ZM → Prop} {adc adr : Nat → Nat} {D : va_G} {cA : Nat → ClassId} {AC AR : Nat → Prop} (hK1 : zk_K (adc, D, cA, zc_shp, AC) s) (hK2 : zk_K (adr, D, cA, zr_shp, AR) s) (hAC : ∀ q, AC q → s.heap.size ≤ q) (hAR : ∀ q, AR q → s.heap.size ≤ q) (hd1 : ∀ q, AR q → ¬ AC q) (hd2 : ∀ q, AC q → ¬ AR q) (hk : ∀ (a : Int32) (b : Int32) (c : Int32) (d : Int32) (e : Int32), zl_ok Rel (f_X4_copy N 0 a b c d e) (f_X5_copy N 0 a b c d e)) {μ ν : ZM} {H : Heap} {locs : List Loc} {ls : Array Slot} {x3 : Int32} (hin : ∀ k : Nat, k < 7 → vp_in (x3 + nI k) L) (hR : Rel μ ν) (hWc : zk_W (adc, D, cA, zc_shp, AC) μ H) (hWr : zk_W (adr, D, cA, zr_shp, AR) ν H) (hS : va_S (fun q => s.heap.size ≤ q) s.heap H locs) (hl : lv_has ls 4 [(0, .ref b), (1, .ref (adc 0)), (2, .ref (adr 0)), (3, .int x3)])
    (kk : ∀ (μ1 ν1 : ZM) (H : Heap) (locs : List Loc), Rel μ1 ν1 → zk_W (adc, D, cA, zc_shp, AC) μ1 H → zk_W (adr, D, cA, zr_shp, AR) ν1 H → va_S (fun q => s.heap.size ≤ q) s.heap H locs → W p l e room_1 s m #[Value.ref b] below meth c H locs 123 1751 (lw_Z below #[Value.ref b] s) (F0 m 1194 ls [])) : W p l e room_1 s m #[Value.ref b] below meth c H locs 123 1751 (lw_Z below #[Value.ref b] s) (F0 m 1131 ls []) := by
  obtain ⟨hx, hb, hr, hml, hown, hts0, hX, hbl, hlocks, hgv⟩ := id C0
  have hts : ∀ w ∈ zk_T, w.before #[Value.ref b] s = true := fun w hw => hts0 w (List.mem_filter.mp hw).1
  have hbA : ¬ (fun q : Nat => s.heap.size ≤ q) b := Nat.not_le.mpr hbl
  obtain ⟨v, μ1, ν1, hf, hg, hR1⟩ := hk (xs (x3 + 1).toNatClampNeg) (xs (x3 + 2).toNatClampNeg) (xs (x3 + 3).toNatClampNeg) (xs (x3 + 4).toNatClampNeg) (xs (x3 + 5).toNatClampNeg) μ ν hR
  refine lv_aload_n hx hb dL_law_1131 rfl (lv_at hl 1 rfl) ?_
  refine lv_aload_n hx hb dL_law_1132 rfl (lv_at hl 0 rfl) ?_
  refine lv_iload_n hx hb dL_law_1133 rfl (lv_at hl 3 rfl) ?_
  refine lv_iconst (v := 1) hx hb dL_law_1134 (by decide) ?_
  refine lv_iadd hx hb dL_law_1135 ?_
  refine va_sld hx hb hX hbl hbA hS (hin 1 (by decide)) dL_law_1136 ?_
  refine lv_aload_n hx hb dL_law_1137 rfl (lv_at hl 0 rfl) ?_
  refine lv_iload_n hx hb dL_law_1138 rfl (lv_at hl 3 rfl) ?_
  refine lv_iconst (v := 2) hx hb dL_law_1139 (by decide) ?_
  refine lv_iadd hx hb dL_law_1140 ?_
  refine va_sld hx hb hX hbl hbA hS (hin 2 (by decide)) dL_law_1141 ?_
  refine lv_aload_n hx hb dL_law_1142 rfl (lv_at hl 0 rfl) ?_
  refine lv_iload_n hx hb dL_law_1143 rfl (lv_at hl 3 rfl) ?_
  refine lv_iconst (v := 3) hx hb dL_law_1144 (by decide) ?_
  refine lv_iadd hx hb dL_law_1145 ?_
  refine va_sld hx hb hX hbl hbA hS (hin 3 (by decide)) dL_law_1146 ?_
  refine lv_aload_n hx hb dL_law_1147 rfl (lv_at hl 0 rfl) ?_
  refine lv_iload_n hx hb dL_law_1148 rfl (lv_at hl 3 rfl) ?_
  refine lv_iconst (v := 4) hx hb dL_law_1149 (by decide) ?_
  refine lv_iadd hx hb dL_law_1150 ?_
  refine va_sld hx hb hX hbl hbA hS (hin 4 (by decide)) dL_law_1151 ?_
  refine lv_aload_n hx hb dL_law_1152 rfl (lv_at hl 0 rfl) ?_
  refine lv_iload_n hx hb dL_law_1153 rfl (lv_at hl 3 rfl) ?_
  refine lv_iconst (v := 5) hx hb dL_law_1154 (by decide) ?_
  refine lv_iadd hx hb dL_law_1155 ?_
  refine va_sld hx hb hX hbl hbA hS (hin 5 (by decide)) dL_law_1156 ?_
  refine zl_call (E := (adc, D, cA, zc_shp, AC)) (E2 := (adr, D, cA, zr_shp, AR)) (own := RL) (k := 0) (G := g_X4_copy N) (r := (v, μ1)) [.inl (xs (x3 + 1).toNatClampNeg), .inl (xs (x3 + 2).toNatClampNeg), .inl (xs (x3 + 3).toNatClampNeg), .inl (xs (x3 + 4).toNatClampNeg), .inl (xs (x3 + 5).toNatClampNeg)] hx hb hml hl.1 hown hts hK1 hWc hWr hS hAC hd1 (m_X4_copy N) hf zc_ok rfl (fun w hw => by revert w; simp [zk_w]) rfl zw_531 ⟨Nat.le_of_ble_eq_true rfl, Nat.le_of_ble_eq_true rfl⟩ ⟨Nat.le_of_ble_eq_true rfl, Nat.le_of_ble_eq_true rfl⟩ rfl (Nat.le_of_ble_eq_true rfl) dL_law_1157 (fun H locs hWc hWr hS => ?_)
  refine lv_aload_n hx hb dL_law_1160 rfl (lv_at hl 2 rfl) ?_
  refine lv_aload_n hx hb dL_law_1161 rfl (lv_at hl 0 rfl) ?_
  refine lv_iload_n hx hb dL_law_1162 rfl (lv_at hl 3 rfl) ?_
  refine lv_iconst (v := 1) hx hb dL_law_1163 (by decide) ?_
  refine lv_iadd hx hb dL_law_1164 ?_
  refine va_sld hx hb hX hbl hbA hS (hin 1 (by decide)) dL_law_1165 ?_
  refine lv_aload_n hx hb dL_law_1166 rfl (lv_at hl 0 rfl) ?_
  refine lv_iload_n hx hb dL_law_1167 rfl (lv_at hl 3 rfl) ?_
  refine lv_iconst (v := 2) hx hb dL_law_1168 (by decide) ?_
  refine lv_iadd hx hb dL_law_1169 ?_
  refine va_sld hx hb hX hbl hbA hS (hin 2 (by decide)) dL_law_1170 ?_
  refine lv_aload_n hx hb dL_law_1171 rfl (lv_at hl 0 rfl) ?_
  refine lv_iload_n hx hb dL_law_1172 rfl (lv_at hl 3 rfl) ?_
  refine lv_iconst (v := 3) hx hb dL_law_1173 (by decide) ?_
  refine lv_iadd hx hb dL_law_1174 ?_
  refine va_sld hx hb hX hbl hbA hS (hin 3 (by decide)) dL_law_1175 ?_
  refine lv_aload_n hx hb dL_law_1176 rfl (lv_at hl 0 rfl) ?_
  refine lv_iload_n hx hb dL_law_1177 rfl (lv_at hl 3 rfl) ?_
  refine lv_iconst (v := 4) hx hb dL_law_1178 (by decide) ?_
  refine lv_iadd hx hb dL_law_1179 ?_
  refine va_sld hx hb hX hbl hbA hS (hin 4 (by decide)) dL_law_1180 ?_
  refine lv_aload_n hx hb dL_law_1181 rfl (lv_at hl 0 rfl) ?_
  refine lv_iload_n hx hb dL_law_1182 rfl (lv_at hl 3 rfl) ?_
  refine lv_iconst (v := 5) hx hb dL_law_1183 (by decide) ?_
  refine lv_iadd hx hb dL_law_1184 ?_
  refine va_sld hx hb hX hbl hbA hS (hin 5 (by decide)) dL_law_1185 ?_
  refine zl_call (E := (adr, D, cA, zr_shp, AR)) (E2 := (adc, D, cA, zc_shp, AC)) (own := RL) (k := 0) (G := g_X5_copy N) (r := (v, ν1)) [.inl (xs (x3 + 1).toNatClampNeg), .inl (xs (x3 + 2).toNatClampNeg), .inl (xs (x3 + 3).toNatClampNeg), .inl (xs (x3 + 4).toNatClampNeg), .inl (xs (x3 + 5).toNatClampNeg)] hx hb hml hl.1 hown hts hK2 hWr hWc hS hAR hd2 (m_X5_copy N) hg zr_ok rfl (fun w hw => by revert w; simp [zk_w]) rfl zw_820 ⟨Nat.le_of_ble_eq_true rfl, Nat.le_of_ble_eq_true rfl⟩ ⟨Nat.le_of_ble_eq_true rfl, Nat.le_of_ble_eq_true rfl⟩ rfl (Nat.le_of_ble_eq_true rfl) dL_law_1186 (fun H locs hWr hWc hS => ?_)
  refine lv_icmp_eq (tgt := 1194) hx hb dL_law_1189 (by decide) (fun _ => ?_) (fun hc => absurd rfl hc)
  exact kk μ1 ν1 H locs hR1 hWc hWr hS
