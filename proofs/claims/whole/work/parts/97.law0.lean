section
variable {p : Program} {l : Launch} {e : Env} {s : State} {m : MethodId} {below : List Frame} {meth : Method} {c : Code} {b L : Nat} {xs : Nat → Int32} {H : Heap} {locs : List Loc} {ce sl : Nat} {Q : State → Prop} {ls : Array Slot} {X : gX}
variable {gi : Nat → Int32} {gl : Nat → Int64} {ga : Nat → Nat → Int32} {vS : Nat → Nat → Int32} {vF : Nat → Nat → Nat → Int32} {sN : Nat → Int32} {sF : Nat → Nat → Int32} {mi : Nat → Int32} {ml : Nat → Int64} {ma : Nat → Nat → Int32} {mb : Nat → Nat → Int64}
set_option maxHeartbeats 4000000 in
set_option maxRecDepth 100000 in
/-- row -/
theorem lc_0 (C0 : lw_At p s m meth c b L xs) (K : LCs s X) {j : Nat} (hj : j + 6 ≤ L) (hL : L ≤ 384) (hce : ce + 0 ≤ room_1.cells ∧ sl + 0 ≤ room_1.slots) (hPG : va_P X.1 vwCl (cG X gi gl ga vS vF sN sF) H) (hPM : va_P X.1 vwCl (cM X mi ml ma mb) H) (R : Rel gi gl ga vS vF sN sF mi ml ma) (hS : va_S (fun q => s.heap.size ≤ q) s.heap H locs) (hl : lv_has ls 4 [(3, .int (nI j)), (2, .ref (xB X 0)), (1, .ref (xA X 0)), (0, .ref b)]) (kk : ∀ (gi : Nat → Int32) (gl : Nat → Int64) (ga : Nat → Nat → Int32) (vS : Nat → Nat → Int32) (vF : Nat → Nat → Nat → Int32) (sN : Nat → Int32) (sF : Nat → Nat → Int32) (mi : Nat → Int32) (ml : Nat → Int64) (ma : Nat → Nat → Int32) (mb : Nat → Nat → Int64) (H : Heap) (locs : List Loc), va_P X.1 vwCl (cG X gi gl ga vS vF sN sF) H → va_P X.1 vwCl (cM X mi ml ma mb) H → Rel gi gl ga vS vF sN sF mi ml ma → va_S (fun q => s.heap.size ≤ q) s.heap H locs → W p l e room_1 s m #[Value.ref b] below meth c H locs ce sl Q (F0 m 1487 ls [])) : W p l e room_1 s m #[Value.ref b] below meth c H locs ce sl Q (F0 m 240 ls []) := by
  obtain ⟨hx, hb, hr, hml, hown, hts0, hX, hbl, hlocks, hgv⟩ := id C0
  have hts := lw_hts hts0
  have hown : s.vm.findClass RL = some m.cls := hown
  have hbA : ¬ (fun q : Nat => s.heap.size ≤ q) b := Nat.not_le.mpr hbl
  have lin : ∀ k, k < 6 → vp_in (nI j + nI k) L := fun k hk => by rw [nI_add]; exact vp_in_nI (by omega) (by omega)
  obtain ⟨r, gi', ga', sN', sF', mi', ma', e1, e2, R'⟩ := st_row R (xs (nI j + 1).toNatClampNeg) (xs (nI j + 2).toNatClampNeg)
  refine lv_aload_n hx hb dL_law_240 rfl (lv_at hl 2 rfl) ?_
  refine lv_aload_n hx hb dL_law_241 rfl (lv_at hl 3 rfl) ?_
  refine lv_iload_n hx hb dL_law_242 rfl (lv_at hl 0 rfl) ?_
  refine lv_iconst (v := 1) hx hb dL_law_243 (by decide) ?_
  refine lv_iadd hx hb dL_law_244 ?_
  refine va_sld hx hb hX hbl hbA hS (lin 1 (by decide)) dL_law_245 ?_
  refine lv_aload_n hx hb dL_law_246 rfl (lv_at hl 3 rfl) ?_
  refine lv_iload_n hx hb dL_law_247 rfl (lv_at hl 0 rfl) ?_
  refine lv_iconst (v := 2) hx hb dL_law_248 (by decide) ?_
  refine lv_iadd hx hb dL_law_249 ?_
  refine va_sld hx hb hX hbl hbA hS (lin 2 (by decide)) dL_law_250 ?_
  refine wcV (As := [.int (xs (nI j + 1).toNatClampNeg), .int (xs (nI j + 2).toNatClampNeg)]) (rest := []) ⟨hx, hb, hml, hown, hts⟩ (c_X8_row l X gi gl ga vS vF sN sF (xs (nI j + 1).toNatClampNeg) (xs (nI j + 2).toNatClampNeg) e1) ⟨w_220, w_221, w_222, w_52, w_223⟩ hd_X8_row rfl rfl ⟨(Nat.le_of_ble_eq_true rfl), (Nat.le_of_ble_eq_true rfl)⟩ hce gPre_blind (va_recv (ci := 4) (q0 := 0) K.1 hPG rfl rfl) (gPre_law K hPG hS) hS K.2.2.2.1 rfl rfl hl.1 (Nat.le_of_ble_eq_true rfl) dL_law_251 (fun H locs hPG hk hS => ?_)
  have hPM := keepM K hPM hk
  refine lv_aload_n hx hb dL_law_254 rfl (lv_at hl 1 rfl) ?_
  refine lv_aload_n hx hb dL_law_255 rfl (lv_at hl 3 rfl) ?_
  refine lv_iload_n hx hb dL_law_256 rfl (lv_at hl 0 rfl) ?_
  refine lv_iconst (v := 1) hx hb dL_law_257 (by decide) ?_
  refine lv_iadd hx hb dL_law_258 ?_
  refine va_sld hx hb hX hbl hbA hS (lin 1 (by decide)) dL_law_259 ?_
  refine lv_aload_n hx hb dL_law_260 rfl (lv_at hl 3 rfl) ?_
  refine lv_iload_n hx hb dL_law_261 rfl (lv_at hl 0 rfl) ?_
  refine lv_iconst (v := 2) hx hb dL_law_262 (by decide) ?_
  refine lv_iadd hx hb dL_law_263 ?_
  refine va_sld hx hb hX hbl hbA hS (lin 2 (by decide)) dL_law_264 ?_
  refine wcV (As := [.int (xs (nI j + 1).toNatClampNeg), .int (xs (nI j + 2).toNatClampNeg)]) (rest := [.int r]) ⟨hx, hb, hml, hown, hts⟩ (c_X9_row l X mi ml ma mb (xs (nI j + 1).toNatClampNeg) (xs (nI j + 2).toNatClampNeg) e2) ⟨w_904, w_905, w_906, w_58, w_907⟩ hd_X9_row rfl rfl ⟨(Nat.le_of_ble_eq_true rfl), (Nat.le_of_ble_eq_true rfl)⟩ hce mPre_blind (va_recv (ci := 5) (q0 := 0) K.1 hPM rfl rfl) (mPre_call hPM K.1 K.2.2.1) hS K.2.2.2.2.1 rfl rfl hl.1 (Nat.le_of_ble_eq_true rfl) dL_law_265 (fun H locs hPM hk hS => ?_)
  have hPG := keepG K hPG hk
  exact lv_icmp_eq (tgt := 1487) hx hb dL_law_268 (by decide) (fun _ => kk _ _ _ _ _ _ _ _ _ _ _ _ _ hPG hPM R' hS) (fun cN => absurd rfl cN)
set_option maxHeartbeats 4000000 in
set_option maxRecDepth 100000 in
/-- lay -/
theorem lc_1 (C0 : lw_At p s m meth c b L xs) (K : LCs s X) {j : Nat} (hj : j + 6 ≤ L) (hL : L ≤ 384) (hce : ce + 0 ≤ room_1.cells ∧ sl + 0 ≤ room_1.slots) (hPG : va_P X.1 vwCl (cG X gi gl ga vS vF sN sF) H) (hPM : va_P X.1 vwCl (cM X mi ml ma mb) H) (R : Rel gi gl ga vS vF sN sF mi ml ma) (hS : va_S (fun q => s.heap.size ≤ q) s.heap H locs) (hl : lv_has ls 4 [(3, .int (nI j)), (2, .ref (xB X 0)), (1, .ref (xA X 0)), (0, .ref b)]) (kk : ∀ (gi : Nat → Int32) (gl : Nat → Int64) (ga : Nat → Nat → Int32) (vS : Nat → Nat → Int32) (vF : Nat → Nat → Nat → Int32) (sN : Nat → Int32) (sF : Nat → Nat → Int32) (mi : Nat → Int32) (ml : Nat → Int64) (ma : Nat → Nat → Int32) (mb : Nat → Nat → Int64) (H : Heap) (locs : List Loc), va_P X.1 vwCl (cG X gi gl ga vS vF sN sF) H → va_P X.1 vwCl (cM X mi ml ma mb) H → Rel gi gl ga vS vF sN sF mi ml ma → va_S (fun q => s.heap.size ≤ q) s.heap H locs → W p l e room_1 s m #[Value.ref b] below meth c H locs ce sl Q (F0 m 1487 ls [])) : W p l e room_1 s m #[Value.ref b] below meth c H locs ce sl Q (F0 m 273 ls []) := by
  obtain ⟨hx, hb, hr, hml, hown, hts0, hX, hbl, hlocks, hgv⟩ := id C0
  have hts := lw_hts hts0
  have hown : s.vm.findClass RL = some m.cls := hown
  have hbA : ¬ (fun q : Nat => s.heap.size ≤ q) b := Nat.not_le.mpr hbl
  have lin : ∀ k, k < 6 → vp_in (nI j + nI k) L := fun k hk => by rw [nI_add]; exact vp_in_nI (by omega) (by omega)
  obtain ⟨r, gi', ga', sF', mi', ma', e1, e2, R'⟩ := st_lay R (xs (nI j + 1).toNatClampNeg) (xs (nI j + 2).toNatClampNeg) (xs (nI j + 3).toNatClampNeg)
  refine lv_aload_n hx hb dL_law_273 rfl (lv_at hl 2 rfl) ?_
  refine lv_aload_n hx hb dL_law_274 rfl (lv_at hl 3 rfl) ?_
  refine lv_iload_n hx hb dL_law_275 rfl (lv_at hl 0 rfl) ?_
  refine lv_iconst (v := 1) hx hb dL_law_276 (by decide) ?_
  refine lv_iadd hx hb dL_law_277 ?_
  refine va_sld hx hb hX hbl hbA hS (lin 1 (by decide)) dL_law_278 ?_
  refine lv_aload_n hx hb dL_law_279 rfl (lv_at hl 3 rfl) ?_
  refine lv_iload_n hx hb dL_law_280 rfl (lv_at hl 0 rfl) ?_
  refine lv_iconst (v := 2) hx hb dL_law_281 (by decide) ?_
  refine lv_iadd hx hb dL_law_282 ?_
  refine va_sld hx hb hX hbl hbA hS (lin 2 (by decide)) dL_law_283 ?_
  refine lv_aload_n hx hb dL_law_284 rfl (lv_at hl 3 rfl) ?_
  refine lv_iload_n hx hb dL_law_285 rfl (lv_at hl 0 rfl) ?_
  refine lv_iconst (v := 3) hx hb dL_law_286 (by decide) ?_
  refine lv_iadd hx hb dL_law_287 ?_
  refine va_sld hx hb hX hbl hbA hS (lin 3 (by decide)) dL_law_288 ?_
  refine wcV (As := [.int (xs (nI j + 1).toNatClampNeg), .int (xs (nI j + 2).toNatClampNeg), .int (xs (nI j + 3).toNatClampNeg)]) (rest := []) ⟨hx, hb, hml, hown, hts⟩ (c_X8_lay l X gi gl ga vS vF sN sF (xs (nI j + 1).toNatClampNeg) (xs (nI j + 2).toNatClampNeg) (xs (nI j + 3).toNatClampNeg) e1) ⟨w_238, w_239, w_240, w_52, w_241⟩ hd_X8_lay rfl rfl ⟨(Nat.le_of_ble_eq_true rfl), (Nat.le_of_ble_eq_true rfl)⟩ hce gPre_blind (va_recv (ci := 4) (q0 := 0) K.1 hPG rfl rfl) (gPre_law K hPG hS) hS K.2.2.2.1 rfl rfl hl.1 (Nat.le_of_ble_eq_true rfl) dL_law_289 (fun H locs hPG hk hS => ?_)
  have hPM := keepM K hPM hk
  refine lv_aload_n hx hb dL_law_292 rfl (lv_at hl 1 rfl) ?_
  refine lv_aload_n hx hb dL_law_293 rfl (lv_at hl 3 rfl) ?_
  refine lv_iload_n hx hb dL_law_294 rfl (lv_at hl 0 rfl) ?_
  refine lv_iconst (v := 1) hx hb dL_law_295 (by decide) ?_
  refine lv_iadd hx hb dL_law_296 ?_
  refine va_sld hx hb hX hbl hbA hS (lin 1 (by decide)) dL_law_297 ?_
  refine lv_aload_n hx hb dL_law_298 rfl (lv_at hl 3 rfl) ?_
  refine lv_iload_n hx hb dL_law_299 rfl (lv_at hl 0 rfl) ?_
  refine lv_iconst (v := 2) hx hb dL_law_300 (by decide) ?_
  refine lv_iadd hx hb dL_law_301 ?_
  refine va_sld hx hb hX hbl hbA hS (lin 2 (by decide)) dL_law_302 ?_
  refine lv_aload_n hx hb dL_law_303 rfl (lv_at hl 3 rfl) ?_
  refine lv_iload_n hx hb dL_law_304 rfl (lv_at hl 0 rfl) ?_
  refine lv_iconst (v := 3) hx hb dL_law_305 (by decide) ?_
  refine lv_iadd hx hb dL_law_306 ?_
  refine va_sld hx hb hX hbl hbA hS (lin 3 (by decide)) dL_law_307 ?_
  refine wcV (As := [.int (xs (nI j + 1).toNatClampNeg), .int (xs (nI j + 2).toNatClampNeg), .int (xs (nI j + 3).toNatClampNeg)]) (rest := [.int r]) ⟨hx, hb, hml, hown, hts⟩ (c_X9_lay l X mi ml ma mb (xs (nI j + 1).toNatClampNeg) (xs (nI j + 2).toNatClampNeg) (xs (nI j + 3).toNatClampNeg) e2) ⟨w_919, w_920, w_921, w_58, w_922⟩ hd_X9_lay rfl rfl ⟨(Nat.le_of_ble_eq_true rfl), (Nat.le_of_ble_eq_true rfl)⟩ hce mPre_blind (va_recv (ci := 5) (q0 := 0) K.1 hPM rfl rfl) (mPre_call hPM K.1 K.2.2.1) hS K.2.2.2.2.1 rfl rfl hl.1 (Nat.le_of_ble_eq_true rfl) dL_law_308 (fun H locs hPM hk hS => ?_)
  have hPG := keepG K hPG hk
  exact lv_icmp_eq (tgt := 1487) hx hb dL_law_311 (by decide) (fun _ => kk _ _ _ _ _ _ _ _ _ _ _ _ _ hPG hPM R' hS) (fun cN => absurd rfl cN)
set_option maxHeartbeats 4000000 in
set_option maxRecDepth 100000 in
/-- at -/
theorem lc_2 (C0 : lw_At p s m meth c b L xs) (K : LCs s X) {j : Nat} (hj : j + 6 ≤ L) (hL : L ≤ 384) (hce : ce + 0 ≤ room_1.cells ∧ sl + 0 ≤ room_1.slots) (hPG : va_P X.1 vwCl (cG X gi gl ga vS vF sN sF) H) (hPM : va_P X.1 vwCl (cM X mi ml ma mb) H) (R : Rel gi gl ga vS vF sN sF mi ml ma) (hS : va_S (fun q => s.heap.size ≤ q) s.heap H locs) (hl : lv_has ls 4 [(3, .int (nI j)), (2, .ref (xB X 0)), (1, .ref (xA X 0)), (0, .ref b)]) (kk : ∀ (gi : Nat → Int32) (gl : Nat → Int64) (ga : Nat → Nat → Int32) (vS : Nat → Nat → Int32) (vF : Nat → Nat → Nat → Int32) (sN : Nat → Int32) (sF : Nat → Nat → Int32) (mi : Nat → Int32) (ml : Nat → Int64) (ma : Nat → Nat → Int32) (mb : Nat → Nat → Int64) (H : Heap) (locs : List Loc), va_P X.1 vwCl (cG X gi gl ga vS vF sN sF) H → va_P X.1 vwCl (cM X mi ml ma mb) H → Rel gi gl ga vS vF sN sF mi ml ma → va_S (fun q => s.heap.size ≤ q) s.heap H locs → W p l e room_1 s m #[Value.ref b] below meth c H locs ce sl Q (F0 m 1487 ls [])) : W p l e room_1 s m #[Value.ref b] below meth c H locs ce sl Q (F0 m 316 ls []) := by
  obtain ⟨hx, hb, hr, hml, hown, hts0, hX, hbl, hlocks, hgv⟩ := id C0
  have hts := lw_hts hts0
  have hown : s.vm.findClass RL = some m.cls := hown
  have hbA : ¬ (fun q : Nat => s.heap.size ≤ q) b := Nat.not_le.mpr hbl
  have lin : ∀ k, k < 6 → vp_in (nI j + nI k) L := fun k hk => by rw [nI_add]; exact vp_in_nI (by omega) (by omega)
  obtain ⟨r, gi', ga', mi', ma', e1, e2, R'⟩ := st_at R (xs (nI j + 1).toNatClampNeg) (xs (nI j + 2).toNatClampNeg)
  refine lv_aload_n hx hb dL_law_316 rfl (lv_at hl 2 rfl) ?_
  refine lv_aload_n hx hb dL_law_317 rfl (lv_at hl 3 rfl) ?_
  refine lv_iload_n hx hb dL_law_318 rfl (lv_at hl 0 rfl) ?_
  refine lv_iconst (v := 1) hx hb dL_law_319 (by decide) ?_
  refine lv_iadd hx hb dL_law_320 ?_
  refine va_sld hx hb hX hbl hbA hS (lin 1 (by decide)) dL_law_321 ?_
  refine lv_aload_n hx hb dL_law_322 rfl (lv_at hl 3 rfl) ?_
  refine lv_iload_n hx hb dL_law_323 rfl (lv_at hl 0 rfl) ?_
  refine lv_iconst (v := 2) hx hb dL_law_324 (by decide) ?_
  refine lv_iadd hx hb dL_law_325 ?_
  refine va_sld hx hb hX hbl hbA hS (lin 2 (by decide)) dL_law_326 ?_
  refine wcV (As := [.int (xs (nI j + 1).toNatClampNeg), .int (xs (nI j + 2).toNatClampNeg)]) (rest := []) ⟨hx, hb, hml, hown, hts⟩ (c_X8_at l X gi gl ga vS vF sN sF (xs (nI j + 1).toNatClampNeg) (xs (nI j + 2).toNatClampNeg) e1) ⟨w_250, w_251, w_252, w_52, w_253⟩ hd_X8_at rfl rfl ⟨(Nat.le_of_ble_eq_true rfl), (Nat.le_of_ble_eq_true rfl)⟩ hce gPre_blind (va_recv (ci := 4) (q0 := 0) K.1 hPG rfl rfl) (gPre_law K hPG hS) hS K.2.2.2.1 rfl rfl hl.1 (Nat.le_of_ble_eq_true rfl) dL_law_327 (fun H locs hPG hk hS => ?_)
  have hPM := keepM K hPM hk
  refine lv_aload_n hx hb dL_law_330 rfl (lv_at hl 1 rfl) ?_
  refine lv_aload_n hx hb dL_law_331 rfl (lv_at hl 3 rfl) ?_
  refine lv_iload_n hx hb dL_law_332 rfl (lv_at hl 0 rfl) ?_
  refine lv_iconst (v := 1) hx hb dL_law_333 (by decide) ?_
  refine lv_iadd hx hb dL_law_334 ?_
  refine va_sld hx hb hX hbl hbA hS (lin 1 (by decide)) dL_law_335 ?_
  refine lv_aload_n hx hb dL_law_336 rfl (lv_at hl 3 rfl) ?_
  refine lv_iload_n hx hb dL_law_337 rfl (lv_at hl 0 rfl) ?_
  refine lv_iconst (v := 2) hx hb dL_law_338 (by decide) ?_
  refine lv_iadd hx hb dL_law_339 ?_
  refine va_sld hx hb hX hbl hbA hS (lin 2 (by decide)) dL_law_340 ?_
  refine wcV (As := [.int (xs (nI j + 1).toNatClampNeg), .int (xs (nI j + 2).toNatClampNeg)]) (rest := [.int r]) ⟨hx, hb, hml, hown, hts⟩ (c_X9_at l X mi ml ma mb (xs (nI j + 1).toNatClampNeg) (xs (nI j + 2).toNatClampNeg) e2) ⟨w_923, w_924, w_925, w_58, w_926⟩ hd_X9_at rfl rfl ⟨(Nat.le_of_ble_eq_true rfl), (Nat.le_of_ble_eq_true rfl)⟩ hce mPre_blind (va_recv (ci := 5) (q0 := 0) K.1 hPM rfl rfl) (mPre_call hPM K.1 K.2.2.1) hS K.2.2.2.2.1 rfl rfl hl.1 (Nat.le_of_ble_eq_true rfl) dL_law_341 (fun H locs hPM hk hS => ?_)
  have hPG := keepG K hPG hk
  exact lv_icmp_eq (tgt := 1487) hx hb dL_law_344 (by decide) (fun _ => kk _ _ _ _ _ _ _ _ _ _ _ _ _ hPG hPM R' hS) (fun cN => absurd rfl cN)
set_option maxHeartbeats 4000000 in
set_option maxRecDepth 100000 in
/-- tear -/
theorem lc_3 (C0 : lw_At p s m meth c b L xs) (K : LCs s X) {j : Nat} (hj : j + 6 ≤ L) (hL : L ≤ 384) (hce : ce + 0 ≤ room_1.cells ∧ sl + 0 ≤ room_1.slots) (hPG : va_P X.1 vwCl (cG X gi gl ga vS vF sN sF) H) (hPM : va_P X.1 vwCl (cM X mi ml ma mb) H) (R : Rel gi gl ga vS vF sN sF mi ml ma) (hS : va_S (fun q => s.heap.size ≤ q) s.heap H locs) (hl : lv_has ls 4 [(3, .int (nI j)), (2, .ref (xB X 0)), (1, .ref (xA X 0)), (0, .ref b)]) (kk : ∀ (gi : Nat → Int32) (gl : Nat → Int64) (ga : Nat → Nat → Int32) (vS : Nat → Nat → Int32) (vF : Nat → Nat → Nat → Int32) (sN : Nat → Int32) (sF : Nat → Nat → Int32) (mi : Nat → Int32) (ml : Nat → Int64) (ma : Nat → Nat → Int32) (mb : Nat → Nat → Int64) (H : Heap) (locs : List Loc), va_P X.1 vwCl (cG X gi gl ga vS vF sN sF) H → va_P X.1 vwCl (cM X mi ml ma mb) H → Rel gi gl ga vS vF sN sF mi ml ma → va_S (fun q => s.heap.size ≤ q) s.heap H locs → W p l e room_1 s m #[Value.ref b] below meth c H locs ce sl Q (F0 m 1487 ls [])) : W p l e room_1 s m #[Value.ref b] below meth c H locs ce sl Q (F0 m 349 ls []) := by
  obtain ⟨hx, hb, hr, hml, hown, hts0, hX, hbl, hlocks, hgv⟩ := id C0
  have hts := lw_hts hts0
  have hown : s.vm.findClass RL = some m.cls := hown
  have hbA : ¬ (fun q : Nat => s.heap.size ≤ q) b := Nat.not_le.mpr hbl
  have lin : ∀ k, k < 6 → vp_in (nI j + nI k) L := fun k hk => by rw [nI_add]; exact vp_in_nI (by omega) (by omega)
  obtain ⟨r, gi', ga', sN', mi', ma', e1, e2, R'⟩ := st_tear R (xs (nI j + 1).toNatClampNeg)
  refine lv_aload_n hx hb dL_law_349 rfl (lv_at hl 2 rfl) ?_
  refine lv_aload_n hx hb dL_law_350 rfl (lv_at hl 3 rfl) ?_
  refine lv_iload_n hx hb dL_law_351 rfl (lv_at hl 0 rfl) ?_
  refine lv_iconst (v := 1) hx hb dL_law_352 (by decide) ?_
  refine lv_iadd hx hb dL_law_353 ?_
  refine va_sld hx hb hX hbl hbA hS (lin 1 (by decide)) dL_law_354 ?_
  refine wcV (As := [.int (xs (nI j + 1).toNatClampNeg)]) (rest := []) ⟨hx, hb, hml, hown, hts⟩ (c_X8_tear l X gi gl ga vS vF sN sF (xs (nI j + 1).toNatClampNeg) e1) ⟨w_254, w_255, w_256, w_52, w_257⟩ hd_X8_tear rfl rfl ⟨(Nat.le_of_ble_eq_true rfl), (Nat.le_of_ble_eq_true rfl)⟩ hce gPre_blind (va_recv (ci := 4) (q0 := 0) K.1 hPG rfl rfl) (gPre_law K hPG hS) hS K.2.2.2.1 rfl rfl hl.1 (Nat.le_of_ble_eq_true rfl) dL_law_355 (fun H locs hPG hk hS => ?_)
  have hPM := keepM K hPM hk
  refine lv_aload_n hx hb dL_law_358 rfl (lv_at hl 1 rfl) ?_
  refine lv_aload_n hx hb dL_law_359 rfl (lv_at hl 3 rfl) ?_
  refine lv_iload_n hx hb dL_law_360 rfl (lv_at hl 0 rfl) ?_
  refine lv_iconst (v := 1) hx hb dL_law_361 (by decide) ?_
  refine lv_iadd hx hb dL_law_362 ?_
  refine va_sld hx hb hX hbl hbA hS (lin 1 (by decide)) dL_law_363 ?_
  refine wcV (As := [.int (xs (nI j + 1).toNatClampNeg)]) (rest := [.int r]) ⟨hx, hb, hml, hown, hts⟩ (c_X9_tear l X mi ml ma mb (xs (nI j + 1).toNatClampNeg) e2) ⟨w_927, w_928, w_929, w_58, w_930⟩ hd_X9_tear rfl rfl ⟨(Nat.le_of_ble_eq_true rfl), (Nat.le_of_ble_eq_true rfl)⟩ hce mPre_blind (va_recv (ci := 5) (q0 := 0) K.1 hPM rfl rfl) (mPre_call hPM K.1 K.2.2.1) hS K.2.2.2.2.1 rfl rfl hl.1 (Nat.le_of_ble_eq_true rfl) dL_law_364 (fun H locs hPM hk hS => ?_)
  have hPG := keepG K hPG hk
  exact lv_icmp_eq (tgt := 1487) hx hb dL_law_367 (by decide) (fun _ => kk _ _ _ _ _ _ _ _ _ _ _ _ _ hPG hPM R' hS) (fun cN => absurd rfl cN)
set_option maxHeartbeats 4000000 in
set_option maxRecDepth 100000 in
/-- copy -/
theorem lc_4 (C0 : lw_At p s m meth c b L xs) (K : LCs s X) {j : Nat} (hj : j + 6 ≤ L) (hL : L ≤ 384) (hce : ce + 0 ≤ room_1.cells ∧ sl + 0 ≤ room_1.slots) (hPG : va_P X.1 vwCl (cG X gi gl ga vS vF sN sF) H) (hPM : va_P X.1 vwCl (cM X mi ml ma mb) H) (R : Rel gi gl ga vS vF sN sF mi ml ma) (hS : va_S (fun q => s.heap.size ≤ q) s.heap H locs) (hl : lv_has ls 4 [(3, .int (nI j)), (2, .ref (xB X 0)), (1, .ref (xA X 0)), (0, .ref b)]) (kk : ∀ (gi : Nat → Int32) (gl : Nat → Int64) (ga : Nat → Nat → Int32) (vS : Nat → Nat → Int32) (vF : Nat → Nat → Nat → Int32) (sN : Nat → Int32) (sF : Nat → Nat → Int32) (mi : Nat → Int32) (ml : Nat → Int64) (ma : Nat → Nat → Int32) (mb : Nat → Nat → Int64) (H : Heap) (locs : List Loc), va_P X.1 vwCl (cG X gi gl ga vS vF sN sF) H → va_P X.1 vwCl (cM X mi ml ma mb) H → Rel gi gl ga vS vF sN sF mi ml ma → va_S (fun q => s.heap.size ≤ q) s.heap H locs → W p l e room_1 s m #[Value.ref b] below meth c H locs ce sl Q (F0 m 1487 ls [])) : W p l e room_1 s m #[Value.ref b] below meth c H locs ce sl Q (F0 m 372 ls []) := by
  obtain ⟨hx, hb, hr, hml, hown, hts0, hX, hbl, hlocks, hgv⟩ := id C0
  have hts := lw_hts hts0
  have hown : s.vm.findClass RL = some m.cls := hown
  have hbA : ¬ (fun q : Nat => s.heap.size ≤ q) b := Nat.not_le.mpr hbl
  have lin : ∀ k, k < 6 → vp_in (nI j + nI k) L := fun k hk => by rw [nI_add]; exact vp_in_nI (by omega) (by omega)
  obtain ⟨r, gi', ga', sF', mi', ma', e1, e2, R'⟩ := st_copy R (xs (nI j + 1).toNatClampNeg) (xs (nI j + 2).toNatClampNeg) (xs (nI j + 3).toNatClampNeg) (xs (nI j + 4).toNatClampNeg) (xs (nI j + 5).toNatClampNeg)
  refine lv_aload_n hx hb dL_law_372 rfl (lv_at hl 2 rfl) ?_
  refine lv_aload_n hx hb dL_law_373 rfl (lv_at hl 3 rfl) ?_
  refine lv_iload_n hx hb dL_law_374 rfl (lv_at hl 0 rfl) ?_
  refine lv_iconst (v := 1) hx hb dL_law_375 (by decide) ?_
  refine lv_iadd hx hb dL_law_376 ?_
  refine va_sld hx hb hX hbl hbA hS (lin 1 (by decide)) dL_law_377 ?_
  refine lv_aload_n hx hb dL_law_378 rfl (lv_at hl 3 rfl) ?_
  refine lv_iload_n hx hb dL_law_379 rfl (lv_at hl 0 rfl) ?_
  refine lv_iconst (v := 2) hx hb dL_law_380 (by decide) ?_
  refine lv_iadd hx hb dL_law_381 ?_
  refine va_sld hx hb hX hbl hbA hS (lin 2 (by decide)) dL_law_382 ?_
  refine lv_aload_n hx hb dL_law_383 rfl (lv_at hl 3 rfl) ?_
  refine lv_iload_n hx hb dL_law_384 rfl (lv_at hl 0 rfl) ?_
  refine lv_iconst (v := 3) hx hb dL_law_385 (by decide) ?_
  refine lv_iadd hx hb dL_law_386 ?_
  refine va_sld hx hb hX hbl hbA hS (lin 3 (by decide)) dL_law_387 ?_
  refine lv_aload_n hx hb dL_law_388 rfl (lv_at hl 3 rfl) ?_
  refine lv_iload_n hx hb dL_law_389 rfl (lv_at hl 0 rfl) ?_
  refine lv_iconst (v := 4) hx hb dL_law_390 (by decide) ?_
  refine lv_iadd hx hb dL_law_391 ?_
  refine va_sld hx hb hX hbl hbA hS (lin 4 (by decide)) dL_law_392 ?_
  refine lv_aload_n hx hb dL_law_393 rfl (lv_at hl 3 rfl) ?_
  refine lv_iload_n hx hb dL_law_394 rfl (lv_at hl 0 rfl) ?_
  refine lv_iconst (v := 5) hx hb dL_law_395 (by decide) ?_
  refine lv_iadd hx hb dL_law_396 ?_
  refine va_sld hx hb hX hbl hbA hS (lin 5 (by decide)) dL_law_397 ?_
  refine wcV (As := [.int (xs (nI j + 1).toNatClampNeg), .int (xs (nI j + 2).toNatClampNeg), .int (xs (nI j + 3).toNatClampNeg), .int (xs (nI j + 4).toNatClampNeg), .int (xs (nI j + 5).toNatClampNeg)]) (rest := []) ⟨hx, hb, hml, hown, hts⟩ (c_X8_copy l X gi gl ga vS vF sN sF (xs (nI j + 1).toNatClampNeg) (xs (nI j + 2).toNatClampNeg) (xs (nI j + 3).toNatClampNeg) (xs (nI j + 4).toNatClampNeg) (xs (nI j + 5).toNatClampNeg) e1) ⟨w_258, w_259, w_260, w_52, w_261⟩ hd_X8_copy rfl rfl ⟨(Nat.le_of_ble_eq_true rfl), (Nat.le_of_ble_eq_true rfl)⟩ hce gPre_blind (va_recv (ci := 4) (q0 := 0) K.1 hPG rfl rfl) (gPre_law K hPG hS) hS K.2.2.2.1 rfl rfl hl.1 (Nat.le_of_ble_eq_true rfl) dL_law_398 (fun H locs hPG hk hS => ?_)
  have hPM := keepM K hPM hk
  refine lv_aload_n hx hb dL_law_401 rfl (lv_at hl 1 rfl) ?_
  refine lv_aload_n hx hb dL_law_402 rfl (lv_at hl 3 rfl) ?_
  refine lv_iload_n hx hb dL_law_403 rfl (lv_at hl 0 rfl) ?_
  refine lv_iconst (v := 1) hx hb dL_law_404 (by decide) ?_
  refine lv_iadd hx hb dL_law_405 ?_
  refine va_sld hx hb hX hbl hbA hS (lin 1 (by decide)) dL_law_406 ?_
  refine lv_aload_n hx hb dL_law_407 rfl (lv_at hl 3 rfl) ?_
  refine lv_iload_n hx hb dL_law_408 rfl (lv_at hl 0 rfl) ?_
  refine lv_iconst (v := 2) hx hb dL_law_409 (by decide) ?_
  refine lv_iadd hx hb dL_law_410 ?_
  refine va_sld hx hb hX hbl hbA hS (lin 2 (by decide)) dL_law_411 ?_
  refine lv_aload_n hx hb dL_law_412 rfl (lv_at hl 3 rfl) ?_
  refine lv_iload_n hx hb dL_law_413 rfl (lv_at hl 0 rfl) ?_
  refine lv_iconst (v := 3) hx hb dL_law_414 (by decide) ?_
  refine lv_iadd hx hb dL_law_415 ?_
  refine va_sld hx hb hX hbl hbA hS (lin 3 (by decide)) dL_law_416 ?_
  refine lv_aload_n hx hb dL_law_417 rfl (lv_at hl 3 rfl) ?_
  refine lv_iload_n hx hb dL_law_418 rfl (lv_at hl 0 rfl) ?_
  refine lv_iconst (v := 4) hx hb dL_law_419 (by decide) ?_
  refine lv_iadd hx hb dL_law_420 ?_
  refine va_sld hx hb hX hbl hbA hS (lin 4 (by decide)) dL_law_421 ?_
  refine lv_aload_n hx hb dL_law_422 rfl (lv_at hl 3 rfl) ?_
  refine lv_iload_n hx hb dL_law_423 rfl (lv_at hl 0 rfl) ?_
  refine lv_iconst (v := 5) hx hb dL_law_424 (by decide) ?_
  refine lv_iadd hx hb dL_law_425 ?_
  refine va_sld hx hb hX hbl hbA hS (lin 5 (by decide)) dL_law_426 ?_
  refine wcV (As := [.int (xs (nI j + 1).toNatClampNeg), .int (xs (nI j + 2).toNatClampNeg), .int (xs (nI j + 3).toNatClampNeg), .int (xs (nI j + 4).toNatClampNeg), .int (xs (nI j + 5).toNatClampNeg)]) (rest := [.int r]) ⟨hx, hb, hml, hown, hts⟩ (c_X9_copy l X mi ml ma mb (xs (nI j + 1).toNatClampNeg) (xs (nI j + 2).toNatClampNeg) (xs (nI j + 3).toNatClampNeg) (xs (nI j + 4).toNatClampNeg) (xs (nI j + 5).toNatClampNeg) e2) ⟨w_931, w_932, w_933, w_58, w_934⟩ hd_X9_copy rfl rfl ⟨(Nat.le_of_ble_eq_true rfl), (Nat.le_of_ble_eq_true rfl)⟩ hce mPre_blind (va_recv (ci := 5) (q0 := 0) K.1 hPM rfl rfl) (mPre_call hPM K.1 K.2.2.1) hS K.2.2.2.2.1 rfl rfl hl.1 (Nat.le_of_ble_eq_true rfl) dL_law_427 (fun H locs hPM hk hS => ?_)
  have hPG := keepG K hPG hk
  exact lv_icmp_eq (tgt := 1487) hx hb dL_law_430 (by decide) (fun _ => kk _ _ _ _ _ _ _ _ _ _ _ _ _ hPG hPM R' hS) (fun cN => absurd rfl cN)
set_option maxHeartbeats 4000000 in
set_option maxRecDepth 100000 in
/-- mean -/
theorem lc_5 (C0 : lw_At p s m meth c b L xs) (K : LCs s X) {j : Nat} (hj : j + 6 ≤ L) (hL : L ≤ 384) (hce : ce + 0 ≤ room_1.cells ∧ sl + 0 ≤ room_1.slots) (hPG : va_P X.1 vwCl (cG X gi gl ga vS vF sN sF) H) (hPM : va_P X.1 vwCl (cM X mi ml ma mb) H) (R : Rel gi gl ga vS vF sN sF mi ml ma) (hS : va_S (fun q => s.heap.size ≤ q) s.heap H locs) (hl : lv_has ls 4 [(3, .int (nI j)), (2, .ref (xB X 0)), (1, .ref (xA X 0)), (0, .ref b)]) (kk : ∀ (gi : Nat → Int32) (gl : Nat → Int64) (ga : Nat → Nat → Int32) (vS : Nat → Nat → Int32) (vF : Nat → Nat → Nat → Int32) (sN : Nat → Int32) (sF : Nat → Nat → Int32) (mi : Nat → Int32) (ml : Nat → Int64) (ma : Nat → Nat → Int32) (mb : Nat → Nat → Int64) (H : Heap) (locs : List Loc), va_P X.1 vwCl (cG X gi gl ga vS vF sN sF) H → va_P X.1 vwCl (cM X mi ml ma mb) H → Rel gi gl ga vS vF sN sF mi ml ma → va_S (fun q => s.heap.size ≤ q) s.heap H locs → W p l e room_1 s m #[Value.ref b] below meth c H locs ce sl Q (F0 m 1487 ls [])) : W p l e room_1 s m #[Value.ref b] below meth c H locs ce sl Q (F0 m 435 ls []) := by
  obtain ⟨hx, hb, hr, hml, hown, hts0, hX, hbl, hlocks, hgv⟩ := id C0
  have hts := lw_hts hts0
  have hown : s.vm.findClass RL = some m.cls := hown
  have hbA : ¬ (fun q : Nat => s.heap.size ≤ q) b := Nat.not_le.mpr hbl
  have lin : ∀ k, k < 6 → vp_in (nI j + nI k) L := fun k hk => by rw [nI_add]; exact vp_in_nI (by omega) (by omega)
  obtain ⟨r, gi', ga', mi', ma', e1, e2, R'⟩ := st_mean R (xs (nI j + 1).toNatClampNeg)
  refine lv_aload_n hx hb dL_law_435 rfl (lv_at hl 2 rfl) ?_
  refine lv_aload_n hx hb dL_law_436 rfl (lv_at hl 3 rfl) ?_
  refine lv_iload_n hx hb dL_law_437 rfl (lv_at hl 0 rfl) ?_
  refine lv_iconst (v := 1) hx hb dL_law_438 (by decide) ?_
  refine lv_iadd hx hb dL_law_439 ?_
  refine va_sld hx hb hX hbl hbA hS (lin 1 (by decide)) dL_law_440 ?_
  refine wcV (As := [.int (xs (nI j + 1).toNatClampNeg)]) (rest := []) ⟨hx, hb, hml, hown, hts⟩ (c_X8_mean l X gi gl ga vS vF sN sF (xs (nI j + 1).toNatClampNeg) e1) ⟨w_269, w_270, w_271, w_52, w_272⟩ hd_X8_mean rfl rfl ⟨(Nat.le_of_ble_eq_true rfl), (Nat.le_of_ble_eq_true rfl)⟩ hce gPre_blind (va_recv (ci := 4) (q0 := 0) K.1 hPG rfl rfl) (gPre_law K hPG hS) hS K.2.2.2.1 rfl rfl hl.1 (Nat.le_of_ble_eq_true rfl) dL_law_441 (fun H locs hPG hk hS => ?_)
  have hPM := keepM K hPM hk
  refine lv_aload_n hx hb dL_law_444 rfl (lv_at hl 1 rfl) ?_
  refine lv_aload_n hx hb dL_law_445 rfl (lv_at hl 3 rfl) ?_
  refine lv_iload_n hx hb dL_law_446 rfl (lv_at hl 0 rfl) ?_
  refine lv_iconst (v := 1) hx hb dL_law_447 (by decide) ?_
  refine lv_iadd hx hb dL_law_448 ?_
  refine va_sld hx hb hX hbl hbA hS (lin 1 (by decide)) dL_law_449 ?_
  refine wcV (As := [.int (xs (nI j + 1).toNatClampNeg)]) (rest := [.int r]) ⟨hx, hb, hml, hown, hts⟩ (c_X9_mean l X mi ml ma mb (xs (nI j + 1).toNatClampNeg) e2) ⟨w_935, w_936, w_937, w_58, w_938⟩ hd_X9_mean rfl rfl ⟨(Nat.le_of_ble_eq_true rfl), (Nat.le_of_ble_eq_true rfl)⟩ hce mPre_blind (va_recv (ci := 5) (q0 := 0) K.1 hPM rfl rfl) (mPre_call hPM K.1 K.2.2.1) hS K.2.2.2.2.1 rfl rfl hl.1 (Nat.le_of_ble_eq_true rfl) dL_law_450 (fun H locs hPM hk hS => ?_)
  have hPG := keepG K hPG hk
  exact lv_icmp_eq (tgt := 1487) hx hb dL_law_453 (by decide) (fun _ => kk _ _ _ _ _ _ _ _ _ _ _ _ _ hPG hPM R' hS) (fun cN => absurd rfl cN)
set_option maxHeartbeats 4000000 in
set_option maxRecDepth 100000 in
/-- text -/
theorem lc_6 (C0 : lw_At p s m meth c b L xs) (K : LCs s X) {j : Nat} (hj : j + 6 ≤ L) (hL : L ≤ 384) (hce : ce + 0 ≤ room_1.cells ∧ sl + 0 ≤ room_1.slots) (hPG : va_P X.1 vwCl (cG X gi gl ga vS vF sN sF) H) (hPM : va_P X.1 vwCl (cM X mi ml ma mb) H) (R : Rel gi gl ga vS vF sN sF mi ml ma) (hS : va_S (fun q => s.heap.size ≤ q) s.heap H locs) (hl : lv_has ls 4 [(3, .int (nI j)), (2, .ref (xB X 0)), (1, .ref (xA X 0)), (0, .ref b)]) (kk : ∀ (gi : Nat → Int32) (gl : Nat → Int64) (ga : Nat → Nat → Int32) (vS : Nat → Nat → Int32) (vF : Nat → Nat → Nat → Int32) (sN : Nat → Int32) (sF : Nat → Nat → Int32) (mi : Nat → Int32) (ml : Nat → Int64) (ma : Nat → Nat → Int32) (mb : Nat → Nat → Int64) (H : Heap) (locs : List Loc), va_P X.1 vwCl (cG X gi gl ga vS vF sN sF) H → va_P X.1 vwCl (cM X mi ml ma mb) H → Rel gi gl ga vS vF sN sF mi ml ma → va_S (fun q => s.heap.size ≤ q) s.heap H locs → W p l e room_1 s m #[Value.ref b] below meth c H locs ce sl Q (F0 m 1487 ls [])) : W p l e room_1 s m #[Value.ref b] below meth c H locs ce sl Q (F0 m 458 ls []) := by
  obtain ⟨hx, hb, hr, hml, hown, hts0, hX, hbl, hlocks, hgv⟩ := id C0
  have hts := lw_hts hts0
  have hown : s.vm.findClass RL = some m.cls := hown
  have hbA : ¬ (fun q : Nat => s.heap.size ≤ q) b := Nat.not_le.mpr hbl
  have lin : ∀ k, k < 6 → vp_in (nI j + nI k) L := fun k hk => by rw [nI_add]; exact vp_in_nI (by omega) (by omega)
  obtain ⟨r, gi', ga', sN', sF', mi', ma', e1, e2, R'⟩ := st_text R (xs (nI j + 1).toNatClampNeg) (xs (nI j + 2).toNatClampNeg)
  refine lv_aload_n hx hb dL_law_458 rfl (lv_at hl 2 rfl) ?_
  refine lv_aload_n hx hb dL_law_459 rfl (lv_at hl 3 rfl) ?_
  refine lv_iload_n hx hb dL_law_460 rfl (lv_at hl 0 rfl) ?_
  refine lv_iconst (v := 1) hx hb dL_law_461 (by decide) ?_
  refine lv_iadd hx hb dL_law_462 ?_
  refine va_sld hx hb hX hbl hbA hS (lin 1 (by decide)) dL_law_463 ?_
  refine lv_aload_n hx hb dL_law_464 rfl (lv_at hl 3 rfl) ?_
  refine lv_iload_n hx hb dL_law_465 rfl (lv_at hl 0 rfl) ?_
  refine lv_iconst (v := 2) hx hb dL_law_466 (by decide) ?_
  refine lv_iadd hx hb dL_law_467 ?_
  refine va_sld hx hb hX hbl hbA hS (lin 2 (by decide)) dL_law_468 ?_
  refine wcV (As := [.int (xs (nI j + 1).toNatClampNeg), .int (xs (nI j + 2).toNatClampNeg)]) (rest := []) ⟨hx, hb, hml, hown, hts⟩ (c_X8_text l X gi gl ga vS vF sN sF (xs (nI j + 1).toNatClampNeg) (xs (nI j + 2).toNatClampNeg) e1) ⟨w_277, w_278, w_279, w_52, w_280⟩ hd_X8_text rfl rfl ⟨(Nat.le_of_ble_eq_true rfl), (Nat.le_of_ble_eq_true rfl)⟩ hce gPre_blind (va_recv (ci := 4) (q0 := 0) K.1 hPG rfl rfl) (gPre_law K hPG hS) hS K.2.2.2.1 rfl rfl hl.1 (Nat.le_of_ble_eq_true rfl) dL_law_469 (fun H locs hPG hk hS => ?_)
  have hPM := keepM K hPM hk
  refine lv_aload_n hx hb dL_law_472 rfl (lv_at hl 1 rfl) ?_
  refine lv_aload_n hx hb dL_law_473 rfl (lv_at hl 3 rfl) ?_
  refine lv_iload_n hx hb dL_law_474 rfl (lv_at hl 0 rfl) ?_
  refine lv_iconst (v := 1) hx hb dL_law_475 (by decide) ?_
  refine lv_iadd hx hb dL_law_476 ?_
  refine va_sld hx hb hX hbl hbA hS (lin 1 (by decide)) dL_law_477 ?_
  refine lv_aload_n hx hb dL_law_478 rfl (lv_at hl 3 rfl) ?_
  refine lv_iload_n hx hb dL_law_479 rfl (lv_at hl 0 rfl) ?_
  refine lv_iconst (v := 2) hx hb dL_law_480 (by decide) ?_
  refine lv_iadd hx hb dL_law_481 ?_
  refine va_sld hx hb hX hbl hbA hS (lin 2 (by decide)) dL_law_482 ?_
  refine wcV (As := [.int (xs (nI j + 1).toNatClampNeg), .int (xs (nI j + 2).toNatClampNeg)]) (rest := [.int r]) ⟨hx, hb, hml, hown, hts⟩ (c_X9_text l X mi ml ma mb (xs (nI j + 1).toNatClampNeg) (xs (nI j + 2).toNatClampNeg) e2) ⟨w_939, w_940, w_941, w_58, w_942⟩ hd_X9_text rfl rfl ⟨(Nat.le_of_ble_eq_true rfl), (Nat.le_of_ble_eq_true rfl)⟩ hce mPre_blind (va_recv (ci := 5) (q0 := 0) K.1 hPM rfl rfl) (mPre_call hPM K.1 K.2.2.1) hS K.2.2.2.2.1 rfl rfl hl.1 (Nat.le_of_ble_eq_true rfl) dL_law_483 (fun H locs hPM hk hS => ?_)
  have hPG := keepG K hPG hk
  exact lv_icmp_eq (tgt := 1487) hx hb dL_law_486 (by decide) (fun _ => kk _ _ _ _ _ _ _ _ _ _ _ _ _ hPG hPM R' hS) (fun cN => absurd rfl cN)
set_option maxHeartbeats 4000000 in
set_option maxRecDepth 100000 in
/-- put -/
theorem lc_7 (C0 : lw_At p s m meth c b L xs) (K : LCs s X) {j : Nat} (hj : j + 6 ≤ L) (hL : L ≤ 384) (hce : ce + 0 ≤ room_1.cells ∧ sl + 0 ≤ room_1.slots) (hPG : va_P X.1 vwCl (cG X gi gl ga vS vF sN sF) H) (hPM : va_P X.1 vwCl (cM X mi ml ma mb) H) (R : Rel gi gl ga vS vF sN sF mi ml ma) (hS : va_S (fun q => s.heap.size ≤ q) s.heap H locs) (hl : lv_has ls 4 [(3, .int (nI j)), (2, .ref (xB X 0)), (1, .ref (xA X 0)), (0, .ref b)]) (kk : ∀ (gi : Nat → Int32) (gl : Nat → Int64) (ga : Nat → Nat → Int32) (vS : Nat → Nat → Int32) (vF : Nat → Nat → Nat → Int32) (sN : Nat → Int32) (sF : Nat → Nat → Int32) (mi : Nat → Int32) (ml : Nat → Int64) (ma : Nat → Nat → Int32) (mb : Nat → Nat → Int64) (H : Heap) (locs : List Loc), va_P X.1 vwCl (cG X gi gl ga vS vF sN sF) H → va_P X.1 vwCl (cM X mi ml ma mb) H → Rel gi gl ga vS vF sN sF mi ml ma → va_S (fun q => s.heap.size ≤ q) s.heap H locs → W p l e room_1 s m #[Value.ref b] below meth c H locs ce sl Q (F0 m 1487 ls [])) : W p l e room_1 s m #[Value.ref b] below meth c H locs ce sl Q (F0 m 491 ls []) := by
  obtain ⟨hx, hb, hr, hml, hown, hts0, hX, hbl, hlocks, hgv⟩ := id C0
  have hts := lw_hts hts0
  have hown : s.vm.findClass RL = some m.cls := hown
  have hbA : ¬ (fun q : Nat => s.heap.size ≤ q) b := Nat.not_le.mpr hbl
  have lin : ∀ k, k < 6 → vp_in (nI j + nI k) L := fun k hk => by rw [nI_add]; exact vp_in_nI (by omega) (by omega)
  obtain ⟨r, gi', ga', sF', mi', ma', e1, e2, R'⟩ := st_put R (xs (nI j + 1).toNatClampNeg) (xs (nI j + 2).toNatClampNeg) (xs (nI j + 3).toNatClampNeg)
  refine lv_aload_n hx hb dL_law_491 rfl (lv_at hl 2 rfl) ?_
  refine lv_aload_n hx hb dL_law_492 rfl (lv_at hl 3 rfl) ?_
  refine lv_iload_n hx hb dL_law_493 rfl (lv_at hl 0 rfl) ?_
  refine lv_iconst (v := 1) hx hb dL_law_494 (by decide) ?_
  refine lv_iadd hx hb dL_law_495 ?_
  refine va_sld hx hb hX hbl hbA hS (lin 1 (by decide)) dL_law_496 ?_
  refine lv_aload_n hx hb dL_law_497 rfl (lv_at hl 3 rfl) ?_
  refine lv_iload_n hx hb dL_law_498 rfl (lv_at hl 0 rfl) ?_
  refine lv_iconst (v := 2) hx hb dL_law_499 (by decide) ?_
  refine lv_iadd hx hb dL_law_500 ?_
  refine va_sld hx hb hX hbl hbA hS (lin 2 (by decide)) dL_law_501 ?_
  refine lv_aload_n hx hb dL_law_502 rfl (lv_at hl 3 rfl) ?_
  refine lv_iload_n hx hb dL_law_503 rfl (lv_at hl 0 rfl) ?_
  refine lv_iconst (v := 3) hx hb dL_law_504 (by decide) ?_
  refine lv_iadd hx hb dL_law_505 ?_
  refine va_sld hx hb hX hbl hbA hS (lin 3 (by decide)) dL_law_506 ?_
  refine wcV (As := [.int (xs (nI j + 1).toNatClampNeg), .int (xs (nI j + 2).toNatClampNeg), .int (xs (nI j + 3).toNatClampNeg)]) (rest := []) ⟨hx, hb, hml, hown, hts⟩ (c_X8_put l X gi gl ga vS vF sN sF (xs (nI j + 1).toNatClampNeg) (xs (nI j + 2).toNatClampNeg) (xs (nI j + 3).toNatClampNeg) e1) ⟨w_284, w_285, w_286, w_52, w_287⟩ hd_X8_put rfl rfl ⟨(Nat.le_of_ble_eq_true rfl), (Nat.le_of_ble_eq_true rfl)⟩ hce gPre_blind (va_recv (ci := 4) (q0 := 0) K.1 hPG rfl rfl) (gPre_law K hPG hS) hS K.2.2.2.1 rfl rfl hl.1 (Nat.le_of_ble_eq_true rfl) dL_law_507 (fun H locs hPG hk hS => ?_)
  have hPM := keepM K hPM hk
  refine lv_aload_n hx hb dL_law_510 rfl (lv_at hl 1 rfl) ?_
  refine lv_aload_n hx hb dL_law_511 rfl (lv_at hl 3 rfl) ?_
  refine lv_iload_n hx hb dL_law_512 rfl (lv_at hl 0 rfl) ?_
  refine lv_iconst (v := 1) hx hb dL_law_513 (by decide) ?_
  refine lv_iadd hx hb dL_law_514 ?_
  refine va_sld hx hb hX hbl hbA hS (lin 1 (by decide)) dL_law_515 ?_
  refine lv_aload_n hx hb dL_law_516 rfl (lv_at hl 3 rfl) ?_
  refine lv_iload_n hx hb dL_law_517 rfl (lv_at hl 0 rfl) ?_
  refine lv_iconst (v := 2) hx hb dL_law_518 (by decide) ?_
  refine lv_iadd hx hb dL_law_519 ?_
  refine va_sld hx hb hX hbl hbA hS (lin 2 (by decide)) dL_law_520 ?_
  refine lv_aload_n hx hb dL_law_521 rfl (lv_at hl 3 rfl) ?_
  refine lv_iload_n hx hb dL_law_522 rfl (lv_at hl 0 rfl) ?_
  refine lv_iconst (v := 3) hx hb dL_law_523 (by decide) ?_
  refine lv_iadd hx hb dL_law_524 ?_
  refine va_sld hx hb hX hbl hbA hS (lin 3 (by decide)) dL_law_525 ?_
  refine wcV (As := [.int (xs (nI j + 1).toNatClampNeg), .int (xs (nI j + 2).toNatClampNeg), .int (xs (nI j + 3).toNatClampNeg)]) (rest := [.int r]) ⟨hx, hb, hml, hown, hts⟩ (c_X9_put l X mi ml ma mb (xs (nI j + 1).toNatClampNeg) (xs (nI j + 2).toNatClampNeg) (xs (nI j + 3).toNatClampNeg) e2) ⟨w_947, w_948, w_949, w_58, w_950⟩ hd_X9_put rfl rfl ⟨(Nat.le_of_ble_eq_true rfl), (Nat.le_of_ble_eq_true rfl)⟩ hce mPre_blind (va_recv (ci := 5) (q0 := 0) K.1 hPM rfl rfl) (mPre_call hPM K.1 K.2.2.1) hS K.2.2.2.2.1 rfl rfl hl.1 (Nat.le_of_ble_eq_true rfl) dL_law_526 (fun H locs hPM hk hS => ?_)
  have hPG := keepG K hPG hk
  exact lv_icmp_eq (tgt := 1487) hx hb dL_law_529 (by decide) (fun _ => kk _ _ _ _ _ _ _ _ _ _ _ _ _ hPG hPM R' hS) (fun cN => absurd rfl cN)
set_option maxHeartbeats 4000000 in
set_option maxRecDepth 100000 in
/-- fault -/
theorem lc_8 (C0 : lw_At p s m meth c b L xs) (K : LCs s X) {j : Nat} (hj : j + 6 ≤ L) (hL : L ≤ 384) (hce : ce + 0 ≤ room_1.cells ∧ sl + 0 ≤ room_1.slots) (hPG : va_P X.1 vwCl (cG X gi gl ga vS vF sN sF) H) (hPM : va_P X.1 vwCl (cM X mi ml ma mb) H) (R : Rel gi gl ga vS vF sN sF mi ml ma) (hS : va_S (fun q => s.heap.size ≤ q) s.heap H locs) (hl : lv_has ls 4 [(3, .int (nI j)), (2, .ref (xB X 0)), (1, .ref (xA X 0)), (0, .ref b)]) (kk : ∀ (gi : Nat → Int32) (gl : Nat → Int64) (ga : Nat → Nat → Int32) (vS : Nat → Nat → Int32) (vF : Nat → Nat → Nat → Int32) (sN : Nat → Int32) (sF : Nat → Nat → Int32) (mi : Nat → Int32) (ml : Nat → Int64) (ma : Nat → Nat → Int32) (mb : Nat → Nat → Int64) (H : Heap) (locs : List Loc), va_P X.1 vwCl (cG X gi gl ga vS vF sN sF) H → va_P X.1 vwCl (cM X mi ml ma mb) H → Rel gi gl ga vS vF sN sF mi ml ma → va_S (fun q => s.heap.size ≤ q) s.heap H locs → W p l e room_1 s m #[Value.ref b] below meth c H locs ce sl Q (F0 m 1487 ls [])) : W p l e room_1 s m #[Value.ref b] below meth c H locs ce sl Q (F0 m 534 ls []) := by
  obtain ⟨hx, hb, hr, hml, hown, hts0, hX, hbl, hlocks, hgv⟩ := id C0
  have hts := lw_hts hts0
  have hown : s.vm.findClass RL = some m.cls := hown
  have hbA : ¬ (fun q : Nat => s.heap.size ≤ q) b := Nat.not_le.mpr hbl
  have lin : ∀ k, k < 6 → vp_in (nI j + nI k) L := fun k hk => by rw [nI_add]; exact vp_in_nI (by omega) (by omega)
  obtain ⟨r, gi', ga', mi', ma', e1, e2, R'⟩ := st_fault R (xs (nI j + 1).toNatClampNeg)
  refine lv_aload_n hx hb dL_law_534 rfl (lv_at hl 2 rfl) ?_
  refine lv_aload_n hx hb dL_law_535 rfl (lv_at hl 3 rfl) ?_
  refine lv_iload_n hx hb dL_law_536 rfl (lv_at hl 0 rfl) ?_
  refine lv_iconst (v := 1) hx hb dL_law_537 (by decide) ?_
  refine lv_iadd hx hb dL_law_538 ?_
  refine va_sld hx hb hX hbl hbA hS (lin 1 (by decide)) dL_law_539 ?_
  refine wcV (As := [.int (xs (nI j + 1).toNatClampNeg)]) (rest := []) ⟨hx, hb, hml, hown, hts⟩ (c_X8_fault l X gi gl ga vS vF sN sF (xs (nI j + 1).toNatClampNeg) e1) ⟨w_288, w_289, w_290, w_52, w_291⟩ hd_X8_fault rfl rfl ⟨(Nat.le_of_ble_eq_true rfl), (Nat.le_of_ble_eq_true rfl)⟩ hce gPre_blind (va_recv (ci := 4) (q0 := 0) K.1 hPG rfl rfl) (gPre_law K hPG hS) hS K.2.2.2.1 rfl rfl hl.1 (Nat.le_of_ble_eq_true rfl) dL_law_540 (fun H locs hPG hk hS => ?_)
  have hPM := keepM K hPM hk
  refine lv_aload_n hx hb dL_law_543 rfl (lv_at hl 1 rfl) ?_
  refine lv_aload_n hx hb dL_law_544 rfl (lv_at hl 3 rfl) ?_
  refine lv_iload_n hx hb dL_law_545 rfl (lv_at hl 0 rfl) ?_
  refine lv_iconst (v := 1) hx hb dL_law_546 (by decide) ?_
  refine lv_iadd hx hb dL_law_547 ?_
  refine va_sld hx hb hX hbl hbA hS (lin 1 (by decide)) dL_law_548 ?_
  refine wcV (As := [.int (xs (nI j + 1).toNatClampNeg)]) (rest := [.int r]) ⟨hx, hb, hml, hown, hts⟩ (c_X9_fault l X mi ml ma mb (xs (nI j + 1).toNatClampNeg) e2) ⟨w_951, w_952, w_953, w_58, w_954⟩ hd_X9_fault rfl rfl ⟨(Nat.le_of_ble_eq_true rfl), (Nat.le_of_ble_eq_true rfl)⟩ hce mPre_blind (va_recv (ci := 5) (q0 := 0) K.1 hPM rfl rfl) (mPre_call hPM K.1 K.2.2.1) hS K.2.2.2.2.1 rfl rfl hl.1 (Nat.le_of_ble_eq_true rfl) dL_law_549 (fun H locs hPM hk hS => ?_)
  have hPG := keepG K hPG hk
  exact lv_icmp_eq (tgt := 1487) hx hb dL_law_552 (by decide) (fun _ => kk _ _ _ _ _ _ _ _ _ _ _ _ _ hPG hPM R' hS) (fun cN => absurd rfl cN)
set_option maxHeartbeats 4000000 in
set_option maxRecDepth 100000 in
/-- village -/
theorem lc_9 (C0 : lw_At p s m meth c b L xs) (K : LCs s X) {j : Nat} (hj : j + 6 ≤ L) (hL : L ≤ 384) (hce : ce + 0 ≤ room_1.cells ∧ sl + 0 ≤ room_1.slots) (hPG : va_P X.1 vwCl (cG X gi gl ga vS vF sN sF) H) (hPM : va_P X.1 vwCl (cM X mi ml ma mb) H) (R : Rel gi gl ga vS vF sN sF mi ml ma) (hS : va_S (fun q => s.heap.size ≤ q) s.heap H locs) (hl : lv_has ls 4 [(3, .int (nI j)), (2, .ref (xB X 0)), (1, .ref (xA X 0)), (0, .ref b)]) (kk : ∀ (gi : Nat → Int32) (gl : Nat → Int64) (ga : Nat → Nat → Int32) (vS : Nat → Nat → Int32) (vF : Nat → Nat → Nat → Int32) (sN : Nat → Int32) (sF : Nat → Nat → Int32) (mi : Nat → Int32) (ml : Nat → Int64) (ma : Nat → Nat → Int32) (mb : Nat → Nat → Int64) (H : Heap) (locs : List Loc), va_P X.1 vwCl (cG X gi gl ga vS vF sN sF) H → va_P X.1 vwCl (cM X mi ml ma mb) H → Rel gi gl ga vS vF sN sF mi ml ma → va_S (fun q => s.heap.size ≤ q) s.heap H locs → W p l e room_1 s m #[Value.ref b] below meth c H locs ce sl Q (F0 m 1487 ls [])) : W p l e room_1 s m #[Value.ref b] below meth c H locs ce sl Q (F0 m 557 ls []) := by
  obtain ⟨hx, hb, hr, hml, hown, hts0, hX, hbl, hlocks, hgv⟩ := id C0
  have hts := lw_hts hts0
  have hown : s.vm.findClass RL = some m.cls := hown
  have hbA : ¬ (fun q : Nat => s.heap.size ≤ q) b := Nat.not_le.mpr hbl
  have lin : ∀ k, k < 6 → vp_in (nI j + nI k) L := fun k hk => by rw [nI_add]; exact vp_in_nI (by omega) (by omega)
  obtain ⟨r, gi', ga', vS', vF', mi', ma', e1, e2, R'⟩ := st_village R (xs (nI j + 1).toNatClampNeg)
  refine lv_aload_n hx hb dL_law_557 rfl (lv_at hl 2 rfl) ?_
  refine lv_aload_n hx hb dL_law_558 rfl (lv_at hl 3 rfl) ?_
  refine lv_iload_n hx hb dL_law_559 rfl (lv_at hl 0 rfl) ?_
  refine lv_iconst (v := 1) hx hb dL_law_560 (by decide) ?_
  refine lv_iadd hx hb dL_law_561 ?_
  refine va_sld hx hb hX hbl hbA hS (lin 1 (by decide)) dL_law_562 ?_
  refine wcV (As := [.int (xs (nI j + 1).toNatClampNeg)]) (rest := []) ⟨hx, hb, hml, hown, hts⟩ (c_X8_village l X gi gl ga vS vF sN sF (xs (nI j + 1).toNatClampNeg) e1) ⟨w_303, w_304, w_305, w_52, w_306⟩ hd_X8_village rfl rfl ⟨(Nat.le_of_ble_eq_true rfl), (Nat.le_of_ble_eq_true rfl)⟩ hce gPre_blind (va_recv (ci := 4) (q0 := 0) K.1 hPG rfl rfl) (gPre_law K hPG hS) hS K.2.2.2.1 rfl rfl hl.1 (Nat.le_of_ble_eq_true rfl) dL_law_563 (fun H locs hPG hk hS => ?_)
  have hPM := keepM K hPM hk
  refine lv_aload_n hx hb dL_law_566 rfl (lv_at hl 1 rfl) ?_
  refine lv_aload_n hx hb dL_law_567 rfl (lv_at hl 3 rfl) ?_
  refine lv_iload_n hx hb dL_law_568 rfl (lv_at hl 0 rfl) ?_
  refine lv_iconst (v := 1) hx hb dL_law_569 (by decide) ?_
  refine lv_iadd hx hb dL_law_570 ?_
  refine va_sld hx hb hX hbl hbA hS (lin 1 (by decide)) dL_law_571 ?_
  refine wcV (As := [.int (xs (nI j + 1).toNatClampNeg)]) (rest := [.int r]) ⟨hx, hb, hml, hown, hts⟩ (c_X9_village l X mi ml ma mb (xs (nI j + 1).toNatClampNeg) e2) ⟨w_978, w_979, w_980, w_58, w_981⟩ hd_X9_village rfl rfl ⟨(Nat.le_of_ble_eq_true rfl), (Nat.le_of_ble_eq_true rfl)⟩ hce mPre_blind (va_recv (ci := 5) (q0 := 0) K.1 hPM rfl rfl) (mPre_call hPM K.1 K.2.2.1) hS K.2.2.2.2.1 rfl rfl hl.1 (Nat.le_of_ble_eq_true rfl) dL_law_572 (fun H locs hPM hk hS => ?_)
  have hPG := keepG K hPG hk
  exact lv_icmp_eq (tgt := 1487) hx hb dL_law_575 (by decide) (fun _ => kk _ _ _ _ _ _ _ _ _ _ _ _ _ hPG hPM R' hS) (fun cN => absurd rfl cN)
set_option maxHeartbeats 4000000 in
set_option maxRecDepth 100000 in
/-- person -/
theorem lc_10 (C0 : lw_At p s m meth c b L xs) (K : LCs s X) {j : Nat} (hj : j + 6 ≤ L) (hL : L ≤ 384) (hce : ce + 0 ≤ room_1.cells ∧ sl + 0 ≤ room_1.slots) (hPG : va_P X.1 vwCl (cG X gi gl ga vS vF sN sF) H) (hPM : va_P X.1 vwCl (cM X mi ml ma mb) H) (R : Rel gi gl ga vS vF sN sF mi ml ma) (hS : va_S (fun q => s.heap.size ≤ q) s.heap H locs) (hl : lv_has ls 4 [(3, .int (nI j)), (2, .ref (xB X 0)), (1, .ref (xA X 0)), (0, .ref b)]) (kk : ∀ (gi : Nat → Int32) (gl : Nat → Int64) (ga : Nat → Nat → Int32) (vS : Nat → Nat → Int32) (vF : Nat → Nat → Nat → Int32) (sN : Nat → Int32) (sF : Nat → Nat → Int32) (mi : Nat → Int32) (ml : Nat → Int64) (ma : Nat → Nat → Int32) (mb : Nat → Nat → Int64) (H : Heap) (locs : List Loc), va_P X.1 vwCl (cG X gi gl ga vS vF sN sF) H → va_P X.1 vwCl (cM X mi ml ma mb) H → Rel gi gl ga vS vF sN sF mi ml ma → va_S (fun q => s.heap.size ≤ q) s.heap H locs → W p l e room_1 s m #[Value.ref b] below meth c H locs ce sl Q (F0 m 1487 ls [])) : W p l e room_1 s m #[Value.ref b] below meth c H locs ce sl Q (F0 m 580 ls []) := by
  obtain ⟨hx, hb, hr, hml, hown, hts0, hX, hbl, hlocks, hgv⟩ := id C0
  have hts := lw_hts hts0
  have hown : s.vm.findClass RL = some m.cls := hown
  have hbA : ¬ (fun q : Nat => s.heap.size ≤ q) b := Nat.not_le.mpr hbl
  have lin : ∀ k, k < 6 → vp_in (nI j + nI k) L := fun k hk => by rw [nI_add]; exact vp_in_nI (by omega) (by omega)
  obtain ⟨r, gi', mi', e1, e2, R'⟩ := st_person R (xs (nI j + 1).toNatClampNeg) (xs (nI j + 2).toNatClampNeg)
  refine lv_aload_n hx hb dL_law_580 rfl (lv_at hl 2 rfl) ?_
  refine lv_aload_n hx hb dL_law_581 rfl (lv_at hl 3 rfl) ?_
  refine lv_iload_n hx hb dL_law_582 rfl (lv_at hl 0 rfl) ?_
  refine lv_iconst (v := 1) hx hb dL_law_583 (by decide) ?_
  refine lv_iadd hx hb dL_law_584 ?_
  refine va_sld hx hb hX hbl hbA hS (lin 1 (by decide)) dL_law_585 ?_
  refine lv_aload_n hx hb dL_law_586 rfl (lv_at hl 3 rfl) ?_
  refine lv_iload_n hx hb dL_law_587 rfl (lv_at hl 0 rfl) ?_
  refine lv_iconst (v := 2) hx hb dL_law_588 (by decide) ?_
  refine lv_iadd hx hb dL_law_589 ?_
  refine va_sld hx hb hX hbl hbA hS (lin 2 (by decide)) dL_law_590 ?_
  refine wcV (As := [.int (xs (nI j + 1).toNatClampNeg), .int (xs (nI j + 2).toNatClampNeg)]) (rest := []) ⟨hx, hb, hml, hown, hts⟩ (c_X8_person l X gi gl ga vS vF sN sF (xs (nI j + 1).toNatClampNeg) (xs (nI j + 2).toNatClampNeg) e1) ⟨w_324, w_325, w_326, w_52, w_327⟩ hd_X8_person rfl rfl ⟨(Nat.le_of_ble_eq_true rfl), (Nat.le_of_ble_eq_true rfl)⟩ hce gPre_blind (va_recv (ci := 4) (q0 := 0) K.1 hPG rfl rfl) (gPre_law K hPG hS) hS K.2.2.2.1 rfl rfl hl.1 (Nat.le_of_ble_eq_true rfl) dL_law_591 (fun H locs hPG hk hS => ?_)
  have hPM := keepM K hPM hk
  refine lv_aload_n hx hb dL_law_594 rfl (lv_at hl 1 rfl) ?_
  refine lv_aload_n hx hb dL_law_595 rfl (lv_at hl 3 rfl) ?_
  refine lv_iload_n hx hb dL_law_596 rfl (lv_at hl 0 rfl) ?_
  refine lv_iconst (v := 1) hx hb dL_law_597 (by decide) ?_
  refine lv_iadd hx hb dL_law_598 ?_
  refine va_sld hx hb hX hbl hbA hS (lin 1 (by decide)) dL_law_599 ?_
  refine lv_aload_n hx hb dL_law_600 rfl (lv_at hl 3 rfl) ?_
  refine lv_iload_n hx hb dL_law_601 rfl (lv_at hl 0 rfl) ?_
  refine lv_iconst (v := 2) hx hb dL_law_602 (by decide) ?_
  refine lv_iadd hx hb dL_law_603 ?_
  refine va_sld hx hb hX hbl hbA hS (lin 2 (by decide)) dL_law_604 ?_
  refine wcV (As := [.int (xs (nI j + 1).toNatClampNeg), .int (xs (nI j + 2).toNatClampNeg)]) (rest := [.int r]) ⟨hx, hb, hml, hown, hts⟩ (c_X9_person l X mi ml ma mb (xs (nI j + 1).toNatClampNeg) (xs (nI j + 2).toNatClampNeg) e2) ⟨w_982, w_983, w_984, w_58, w_985⟩ hd_X9_person rfl rfl ⟨(Nat.le_of_ble_eq_true rfl), (Nat.le_of_ble_eq_true rfl)⟩ hce mPre_blind (va_recv (ci := 5) (q0 := 0) K.1 hPM rfl rfl) (mPre_call hPM K.1 K.2.2.1) hS K.2.2.2.2.1 rfl rfl hl.1 (Nat.le_of_ble_eq_true rfl) dL_law_605 (fun H locs hPM hk hS => ?_)
  have hPG := keepG K hPG hk
  exact lv_icmp_eq (tgt := 1487) hx hb dL_law_608 (by decide) (fun _ => kk _ _ _ _ _ _ _ _ _ _ _ _ _ hPG hPM R' hS) (fun cN => absurd rfl cN)
set_option maxHeartbeats 4000000 in
set_option maxRecDepth 100000 in
/-- mark -/
theorem lc_11 (C0 : lw_At p s m meth c b L xs) (K : LCs s X) {j : Nat} (hj : j + 6 ≤ L) (hL : L ≤ 384) (hce : ce + 0 ≤ room_1.cells ∧ sl + 0 ≤ room_1.slots) (hPG : va_P X.1 vwCl (cG X gi gl ga vS vF sN sF) H) (hPM : va_P X.1 vwCl (cM X mi ml ma mb) H) (R : Rel gi gl ga vS vF sN sF mi ml ma) (hS : va_S (fun q => s.heap.size ≤ q) s.heap H locs) (hl : lv_has ls 4 [(3, .int (nI j)), (2, .ref (xB X 0)), (1, .ref (xA X 0)), (0, .ref b)]) (kk : ∀ (gi : Nat → Int32) (gl : Nat → Int64) (ga : Nat → Nat → Int32) (vS : Nat → Nat → Int32) (vF : Nat → Nat → Nat → Int32) (sN : Nat → Int32) (sF : Nat → Nat → Int32) (mi : Nat → Int32) (ml : Nat → Int64) (ma : Nat → Nat → Int32) (mb : Nat → Nat → Int64) (H : Heap) (locs : List Loc), va_P X.1 vwCl (cG X gi gl ga vS vF sN sF) H → va_P X.1 vwCl (cM X mi ml ma mb) H → Rel gi gl ga vS vF sN sF mi ml ma → va_S (fun q => s.heap.size ≤ q) s.heap H locs → W p l e room_1 s m #[Value.ref b] below meth c H locs ce sl Q (F0 m 1487 ls [])) : W p l e room_1 s m #[Value.ref b] below meth c H locs ce sl Q (F0 m 613 ls []) := by
  obtain ⟨hx, hb, hr, hml, hown, hts0, hX, hbl, hlocks, hgv⟩ := id C0
  have hts := lw_hts hts0
  have hown : s.vm.findClass RL = some m.cls := hown
  have hbA : ¬ (fun q : Nat => s.heap.size ≤ q) b := Nat.not_le.mpr hbl
  have lin : ∀ k, k < 6 → vp_in (nI j + nI k) L := fun k hk => by rw [nI_add]; exact vp_in_nI (by omega) (by omega)
  obtain ⟨r, gi', ga', mi', ma', e1, e2, R'⟩ := st_mark R (xs (nI j + 1).toNatClampNeg) (xs (nI j + 2).toNatClampNeg)
  refine lv_aload_n hx hb dL_law_613 rfl (lv_at hl 2 rfl) ?_
  refine lv_aload_n hx hb dL_law_614 rfl (lv_at hl 3 rfl) ?_
  refine lv_iload_n hx hb dL_law_615 rfl (lv_at hl 0 rfl) ?_
  refine lv_iconst (v := 1) hx hb dL_law_616 (by decide) ?_
  refine lv_iadd hx hb dL_law_617 ?_
  refine va_sld hx hb hX hbl hbA hS (lin 1 (by decide)) dL_law_618 ?_
  refine lv_aload_n hx hb dL_law_619 rfl (lv_at hl 3 rfl) ?_
  refine lv_iload_n hx hb dL_law_620 rfl (lv_at hl 0 rfl) ?_
  refine lv_iconst (v := 2) hx hb dL_law_621 (by decide) ?_
  refine lv_iadd hx hb dL_law_622 ?_
  refine va_sld hx hb hX hbl hbA hS (lin 2 (by decide)) dL_law_623 ?_
  refine wcV (As := [.int (xs (nI j + 1).toNatClampNeg), .int (xs (nI j + 2).toNatClampNeg)]) (rest := []) ⟨hx, hb, hml, hown, hts⟩ (c_X8_mark l X gi gl ga vS vF sN sF (xs (nI j + 1).toNatClampNeg) (xs (nI j + 2).toNatClampNeg) e1) ⟨w_362, w_363, w_364, w_52, w_365⟩ hd_X8_mark rfl rfl ⟨(Nat.le_of_ble_eq_true rfl), (Nat.le_of_ble_eq_true rfl)⟩ hce gPre_blind (va_recv (ci := 4) (q0 := 0) K.1 hPG rfl rfl) (gPre_law K hPG hS) hS K.2.2.2.1 rfl rfl hl.1 (Nat.le_of_ble_eq_true rfl) dL_law_624 (fun H locs hPG hk hS => ?_)
  have hPM := keepM K hPM hk
  refine lv_aload_n hx hb dL_law_627 rfl (lv_at hl 1 rfl) ?_
  refine lv_aload_n hx hb dL_law_628 rfl (lv_at hl 3 rfl) ?_
  refine lv_iload_n hx hb dL_law_629 rfl (lv_at hl 0 rfl) ?_
  refine lv_iconst (v := 1) hx hb dL_law_630 (by decide) ?_
  refine lv_iadd hx hb dL_law_631 ?_
  refine va_sld hx hb hX hbl hbA hS (lin 1 (by decide)) dL_law_632 ?_
  refine lv_aload_n hx hb dL_law_633 rfl (lv_at hl 3 rfl) ?_
  refine lv_iload_n hx hb dL_law_634 rfl (lv_at hl 0 rfl) ?_
  refine lv_iconst (v := 2) hx hb dL_law_635 (by decide) ?_
  refine lv_iadd hx hb dL_law_636 ?_
  refine va_sld hx hb hX hbl hbA hS (lin 2 (by decide)) dL_law_637 ?_
  refine wcV (As := [.int (xs (nI j + 1).toNatClampNeg), .int (xs (nI j + 2).toNatClampNeg)]) (rest := [.int r]) ⟨hx, hb, hml, hown, hts⟩ (c_X9_mark l X mi ml ma mb (xs (nI j + 1).toNatClampNeg) (xs (nI j + 2).toNatClampNeg) e2) ⟨w_1002, w_1003, w_1004, w_58, w_1005⟩ hd_X9_mark rfl rfl ⟨(Nat.le_of_ble_eq_true rfl), (Nat.le_of_ble_eq_true rfl)⟩ hce mPre_blind (va_recv (ci := 5) (q0 := 0) K.1 hPM rfl rfl) (mPre_call hPM K.1 K.2.2.1) hS K.2.2.2.2.1 rfl rfl hl.1 (Nat.le_of_ble_eq_true rfl) dL_law_638 (fun H locs hPM hk hS => ?_)
  have hPG := keepG K hPG hk
  exact lv_icmp_eq (tgt := 1487) hx hb dL_law_641 (by decide) (fun _ => kk _ _ _ _ _ _ _ _ _ _ _ _ _ hPG hPM R' hS) (fun cN => absurd rfl cN)
end
