section
variable {p : Program} {l : Launch} {e : Env} {s : State} {m : MethodId} {below : List Frame} {meth : Method} {c : Code} {b L : Nat} {xs : Nat → Int32} {H : Heap} {locs : List Loc} {ce sl : Nat} {Q : State → Prop} {ls : Array Slot} {X : gX}
variable {gi : Nat → Int32} {gl : Nat → Int64} {ga : Nat → Nat → Int32} {vS : Nat → Nat → Int32} {vF : Nat → Nat → Nat → Int32} {sN : Nat → Int32} {sF : Nat → Nat → Int32} {mi : Nat → Int32} {ml : Nat → Int64} {ma : Nat → Nat → Int32} {mb : Nat → Nat → Int64}
set_option maxHeartbeats 4000000 in
set_option maxRecDepth 100000 in
/-- nth -/
theorem lc_36 (C0 : lw_At p s m meth c b L xs) (K : LCs s X) {j : Nat} (hj : j + 6 ≤ L) (hL : L ≤ 384) (hce : ce + 0 ≤ room_1.cells ∧ sl + 0 ≤ room_1.slots) (hPG : va_P X.1 vwCl (cG X gi gl ga vS vF sN sF) H) (hPM : va_P X.1 vwCl (cM X mi ml ma mb) H) (R : Rel gi gl ga vS vF sN sF mi ml ma) (hS : va_S (fun q => s.heap.size ≤ q) s.heap H locs) (hl : lv_has ls 4 [(3, .int (nI j)), (2, .ref (xB X 0)), (1, .ref (xA X 0)), (0, .ref b)]) (kk : ∀ (gi : Nat → Int32) (gl : Nat → Int64) (ga : Nat → Nat → Int32) (vS : Nat → Nat → Int32) (vF : Nat → Nat → Nat → Int32) (sN : Nat → Int32) (sF : Nat → Nat → Int32) (mi : Nat → Int32) (ml : Nat → Int64) (ma : Nat → Nat → Int32) (mb : Nat → Nat → Int64) (H : Heap) (locs : List Loc), va_P X.1 vwCl (cG X gi gl ga vS vF sN sF) H → va_P X.1 vwCl (cM X mi ml ma mb) H → Rel gi gl ga vS vF sN sF mi ml ma → va_S (fun q => s.heap.size ≤ q) s.heap H locs → W p l e room_1 s m #[Value.ref b] below meth c H locs ce sl Q (F0 m 1487 ls [])) : W p l e room_1 s m #[Value.ref b] below meth c H locs ce sl Q (F0 m 1228 ls []) := by
  obtain ⟨hx, hb, hr, hml, hown, hts0, hX, hbl, hlocks, hgv⟩ := id C0
  have hts := lw_hts hts0
  have hown : s.vm.findClass RL = some m.cls := hown
  have hbA : ¬ (fun q : Nat => s.heap.size ≤ q) b := Nat.not_le.mpr hbl
  have lin : ∀ k, k < 6 → vp_in (nI j + nI k) L := fun k hk => by rw [nI_add]; exact vp_in_nI (by omega) (by omega)
  obtain ⟨r, gi', ga', sN', sF', mi', ma', mb', e1, e2, R'⟩ := st_nth R mb (xs (nI j + 1).toNatClampNeg) (xs (nI j + 2).toNatClampNeg)
  refine lv_aload_n hx hb dL_law_1228 rfl (lv_at hl 2 rfl) ?_
  refine lv_aload_n hx hb dL_law_1229 rfl (lv_at hl 3 rfl) ?_
  refine lv_iload_n hx hb dL_law_1230 rfl (lv_at hl 0 rfl) ?_
  refine lv_iconst (v := 1) hx hb dL_law_1231 (by decide) ?_
  refine lv_iadd hx hb dL_law_1232 ?_
  refine va_sld hx hb hX hbl hbA hS (lin 1 (by decide)) dL_law_1233 ?_
  refine lv_aload_n hx hb dL_law_1234 rfl (lv_at hl 3 rfl) ?_
  refine lv_iload_n hx hb dL_law_1235 rfl (lv_at hl 0 rfl) ?_
  refine lv_iconst (v := 2) hx hb dL_law_1236 (by decide) ?_
  refine lv_iadd hx hb dL_law_1237 ?_
  refine va_sld hx hb hX hbl hbA hS (lin 2 (by decide)) dL_law_1238 ?_
  refine wcV (As := [.int (xs (nI j + 1).toNatClampNeg), .int (xs (nI j + 2).toNatClampNeg)]) (rest := []) ⟨hx, hb, hml, hown, hts⟩ (c_X8_nth l X gi gl ga vS vF sN sF (xs (nI j + 1).toNatClampNeg) (xs (nI j + 2).toNatClampNeg) e1) ⟨w_665, w_666, w_667, w_52, w_668⟩ hd_X8_nth rfl rfl ⟨(Nat.le_of_ble_eq_true rfl), (Nat.le_of_ble_eq_true rfl)⟩ hce gPre_blind (va_recv (ci := 4) (q0 := 0) K.1 hPG rfl rfl) (gPre_law K hPG hS) hS K.2.2.2.1 rfl rfl hl.1 (Nat.le_of_ble_eq_true rfl) dL_law_1239 (fun H locs hPG hk hS => ?_)
  have hPM := keepM K hPM hk
  refine lv_aload_n hx hb dL_law_1242 rfl (lv_at hl 1 rfl) ?_
  refine lv_aload_n hx hb dL_law_1243 rfl (lv_at hl 3 rfl) ?_
  refine lv_iload_n hx hb dL_law_1244 rfl (lv_at hl 0 rfl) ?_
  refine lv_iconst (v := 1) hx hb dL_law_1245 (by decide) ?_
  refine lv_iadd hx hb dL_law_1246 ?_
  refine va_sld hx hb hX hbl hbA hS (lin 1 (by decide)) dL_law_1247 ?_
  refine lv_aload_n hx hb dL_law_1248 rfl (lv_at hl 3 rfl) ?_
  refine lv_iload_n hx hb dL_law_1249 rfl (lv_at hl 0 rfl) ?_
  refine lv_iconst (v := 2) hx hb dL_law_1250 (by decide) ?_
  refine lv_iadd hx hb dL_law_1251 ?_
  refine va_sld hx hb hX hbl hbA hS (lin 2 (by decide)) dL_law_1252 ?_
  refine wcV (As := [.int (xs (nI j + 1).toNatClampNeg), .int (xs (nI j + 2).toNatClampNeg)]) (rest := [.int r]) ⟨hx, hb, hml, hown, hts⟩ (c_X9_nth l X mi ml ma mb (xs (nI j + 1).toNatClampNeg) (xs (nI j + 2).toNatClampNeg) e2) ⟨w_1216, w_1217, w_1218, w_58, w_1219⟩ hd_X9_nth rfl rfl ⟨(Nat.le_of_ble_eq_true rfl), (Nat.le_of_ble_eq_true rfl)⟩ hce mPre_blind (va_recv (ci := 5) (q0 := 0) K.1 hPM rfl rfl) (mPre_call hPM K.1 K.2.2.1) hS K.2.2.2.2.1 rfl rfl hl.1 (Nat.le_of_ble_eq_true rfl) dL_law_1253 (fun H locs hPM hk hS => ?_)
  have hPG := keepG K hPG hk
  exact lv_icmp_eq (tgt := 1487) hx hb dL_law_1256 (by decide) (fun _ => kk _ _ _ _ _ _ _ _ _ _ _ _ _ hPG hPM R' hS) (fun cN => absurd rfl cN)
set_option maxHeartbeats 4000000 in
set_option maxRecDepth 100000 in
/-- gold -/
theorem lc_37 (C0 : lw_At p s m meth c b L xs) (K : LCs s X) {j : Nat} (hj : j + 6 ≤ L) (hL : L ≤ 384) (hce : ce + 0 ≤ room_1.cells ∧ sl + 0 ≤ room_1.slots) (hPG : va_P X.1 vwCl (cG X gi gl ga vS vF sN sF) H) (hPM : va_P X.1 vwCl (cM X mi ml ma mb) H) (R : Rel gi gl ga vS vF sN sF mi ml ma) (hS : va_S (fun q => s.heap.size ≤ q) s.heap H locs) (hl : lv_has ls 4 [(3, .int (nI j)), (2, .ref (xB X 0)), (1, .ref (xA X 0)), (0, .ref b)]) (kk : ∀ (gi : Nat → Int32) (gl : Nat → Int64) (ga : Nat → Nat → Int32) (vS : Nat → Nat → Int32) (vF : Nat → Nat → Nat → Int32) (sN : Nat → Int32) (sF : Nat → Nat → Int32) (mi : Nat → Int32) (ml : Nat → Int64) (ma : Nat → Nat → Int32) (mb : Nat → Nat → Int64) (H : Heap) (locs : List Loc), va_P X.1 vwCl (cG X gi gl ga vS vF sN sF) H → va_P X.1 vwCl (cM X mi ml ma mb) H → Rel gi gl ga vS vF sN sF mi ml ma → va_S (fun q => s.heap.size ≤ q) s.heap H locs → W p l e room_1 s m #[Value.ref b] below meth c H locs ce sl Q (F0 m 1487 ls [])) : W p l e room_1 s m #[Value.ref b] below meth c H locs ce sl Q (F0 m 1261 ls []) := by
  obtain ⟨hx, hb, hr, hml, hown, hts0, hX, hbl, hlocks, hgv⟩ := id C0
  have hts := lw_hts hts0
  have hown : s.vm.findClass RL = some m.cls := hown
  have hbA : ¬ (fun q : Nat => s.heap.size ≤ q) b := Nat.not_le.mpr hbl
  have lin : ∀ k, k < 6 → vp_in (nI j + nI k) L := fun k hk => by rw [nI_add]; exact vp_in_nI (by omega) (by omega)
  obtain ⟨r, sN', sF', mi', ma', e1, e2, R'⟩ := st_gold R (xs (nI j + 1).toNatClampNeg) (xs (nI j + 2).toNatClampNeg)
  refine lv_aload_n hx hb dL_law_1261 rfl (lv_at hl 2 rfl) ?_
  refine lv_aload_n hx hb dL_law_1262 rfl (lv_at hl 3 rfl) ?_
  refine lv_iload_n hx hb dL_law_1263 rfl (lv_at hl 0 rfl) ?_
  refine lv_iconst (v := 1) hx hb dL_law_1264 (by decide) ?_
  refine lv_iadd hx hb dL_law_1265 ?_
  refine va_sld hx hb hX hbl hbA hS (lin 1 (by decide)) dL_law_1266 ?_
  refine lv_aload_n hx hb dL_law_1267 rfl (lv_at hl 3 rfl) ?_
  refine lv_iload_n hx hb dL_law_1268 rfl (lv_at hl 0 rfl) ?_
  refine lv_iconst (v := 2) hx hb dL_law_1269 (by decide) ?_
  refine lv_iadd hx hb dL_law_1270 ?_
  refine va_sld hx hb hX hbl hbA hS (lin 2 (by decide)) dL_law_1271 ?_
  refine wcV (As := [.int (xs (nI j + 1).toNatClampNeg), .int (xs (nI j + 2).toNatClampNeg)]) (rest := []) ⟨hx, hb, hml, hown, hts⟩ (c_X8_gold l X gi gl ga vS vF sN sF (xs (nI j + 1).toNatClampNeg) (xs (nI j + 2).toNatClampNeg) e1) ⟨w_675, w_676, w_677, w_52, w_678⟩ hd_X8_gold rfl rfl ⟨(Nat.le_of_ble_eq_true rfl), (Nat.le_of_ble_eq_true rfl)⟩ hce gPre_blind (va_recv (ci := 4) (q0 := 0) K.1 hPG rfl rfl) (gPre_law K hPG hS) hS K.2.2.2.1 rfl rfl hl.1 (Nat.le_of_ble_eq_true rfl) dL_law_1272 (fun H locs hPG hk hS => ?_)
  have hPM := keepM K hPM hk
  refine lv_aload_n hx hb dL_law_1275 rfl (lv_at hl 1 rfl) ?_
  refine lv_aload_n hx hb dL_law_1276 rfl (lv_at hl 3 rfl) ?_
  refine lv_iload_n hx hb dL_law_1277 rfl (lv_at hl 0 rfl) ?_
  refine lv_iconst (v := 1) hx hb dL_law_1278 (by decide) ?_
  refine lv_iadd hx hb dL_law_1279 ?_
  refine va_sld hx hb hX hbl hbA hS (lin 1 (by decide)) dL_law_1280 ?_
  refine lv_aload_n hx hb dL_law_1281 rfl (lv_at hl 3 rfl) ?_
  refine lv_iload_n hx hb dL_law_1282 rfl (lv_at hl 0 rfl) ?_
  refine lv_iconst (v := 2) hx hb dL_law_1283 (by decide) ?_
  refine lv_iadd hx hb dL_law_1284 ?_
  refine va_sld hx hb hX hbl hbA hS (lin 2 (by decide)) dL_law_1285 ?_
  refine wcV (As := [.int (xs (nI j + 1).toNatClampNeg), .int (xs (nI j + 2).toNatClampNeg)]) (rest := [.int r]) ⟨hx, hb, hml, hown, hts⟩ (c_X9_gold l X mi ml ma mb (xs (nI j + 1).toNatClampNeg) (xs (nI j + 2).toNatClampNeg) e2) ⟨w_1220, w_1221, w_1222, w_58, w_1223⟩ hd_X9_gold rfl rfl ⟨(Nat.le_of_ble_eq_true rfl), (Nat.le_of_ble_eq_true rfl)⟩ hce mPre_blind (va_recv (ci := 5) (q0 := 0) K.1 hPM rfl rfl) (mPre_call hPM K.1 K.2.2.1) hS K.2.2.2.2.1 rfl rfl hl.1 (Nat.le_of_ble_eq_true rfl) dL_law_1286 (fun H locs hPM hk hS => ?_)
  have hPG := keepG K hPG hk
  exact lv_icmp_eq (tgt := 1487) hx hb dL_law_1289 (by decide) (fun _ => kk _ _ _ _ _ _ _ _ _ _ _ _ _ hPG hPM R' hS) (fun cN => absurd rfl cN)
set_option maxHeartbeats 4000000 in
set_option maxRecDepth 100000 in
/-- tastes -/
theorem lc_38 (C0 : lw_At p s m meth c b L xs) (K : LCs s X) {j : Nat} (hj : j + 6 ≤ L) (hL : L ≤ 384) (hce : ce + 0 ≤ room_1.cells ∧ sl + 0 ≤ room_1.slots) (hPG : va_P X.1 vwCl (cG X gi gl ga vS vF sN sF) H) (hPM : va_P X.1 vwCl (cM X mi ml ma mb) H) (R : Rel gi gl ga vS vF sN sF mi ml ma) (hS : va_S (fun q => s.heap.size ≤ q) s.heap H locs) (hl : lv_has ls 4 [(3, .int (nI j)), (2, .ref (xB X 0)), (1, .ref (xA X 0)), (0, .ref b)]) (kk : ∀ (gi : Nat → Int32) (gl : Nat → Int64) (ga : Nat → Nat → Int32) (vS : Nat → Nat → Int32) (vF : Nat → Nat → Nat → Int32) (sN : Nat → Int32) (sF : Nat → Nat → Int32) (mi : Nat → Int32) (ml : Nat → Int64) (ma : Nat → Nat → Int32) (mb : Nat → Nat → Int64) (H : Heap) (locs : List Loc), va_P X.1 vwCl (cG X gi gl ga vS vF sN sF) H → va_P X.1 vwCl (cM X mi ml ma mb) H → Rel gi gl ga vS vF sN sF mi ml ma → va_S (fun q => s.heap.size ≤ q) s.heap H locs → W p l e room_1 s m #[Value.ref b] below meth c H locs ce sl Q (F0 m 1487 ls [])) : W p l e room_1 s m #[Value.ref b] below meth c H locs ce sl Q (F0 m 1294 ls []) := by
  obtain ⟨hx, hb, hr, hml, hown, hts0, hX, hbl, hlocks, hgv⟩ := id C0
  have hts := lw_hts hts0
  have hown : s.vm.findClass RL = some m.cls := hown
  have hbA : ¬ (fun q : Nat => s.heap.size ≤ q) b := Nat.not_le.mpr hbl
  have lin : ∀ k, k < 6 → vp_in (nI j + nI k) L := fun k hk => by rw [nI_add]; exact vp_in_nI (by omega) (by omega)
  obtain ⟨r, gi', ga', mi', ma', e1, e2, R'⟩ := st_tastes R (xs (nI j + 1).toNatClampNeg)
  refine lv_aload_n hx hb dL_law_1294 rfl (lv_at hl 2 rfl) ?_
  refine lv_aload_n hx hb dL_law_1295 rfl (lv_at hl 3 rfl) ?_
  refine lv_iload_n hx hb dL_law_1296 rfl (lv_at hl 0 rfl) ?_
  refine lv_iconst (v := 1) hx hb dL_law_1297 (by decide) ?_
  refine lv_iadd hx hb dL_law_1298 ?_
  refine va_sld hx hb hX hbl hbA hS (lin 1 (by decide)) dL_law_1299 ?_
  refine wcV (As := [.int (xs (nI j + 1).toNatClampNeg)]) (rest := []) ⟨hx, hb, hml, hown, hts⟩ (c_X8_tastes l X gi gl ga vS vF sN sF (xs (nI j + 1).toNatClampNeg) e1) ⟨w_690, w_691, w_692, w_52, w_693⟩ hd_X8_tastes rfl rfl ⟨(Nat.le_of_ble_eq_true rfl), (Nat.le_of_ble_eq_true rfl)⟩ hce gPre_blind (va_recv (ci := 4) (q0 := 0) K.1 hPG rfl rfl) (gPre_law K hPG hS) hS K.2.2.2.1 rfl rfl hl.1 (Nat.le_of_ble_eq_true rfl) dL_law_1300 (fun H locs hPG hk hS => ?_)
  have hPM := keepM K hPM hk
  refine lv_aload_n hx hb dL_law_1303 rfl (lv_at hl 1 rfl) ?_
  refine lv_aload_n hx hb dL_law_1304 rfl (lv_at hl 3 rfl) ?_
  refine lv_iload_n hx hb dL_law_1305 rfl (lv_at hl 0 rfl) ?_
  refine lv_iconst (v := 1) hx hb dL_law_1306 (by decide) ?_
  refine lv_iadd hx hb dL_law_1307 ?_
  refine va_sld hx hb hX hbl hbA hS (lin 1 (by decide)) dL_law_1308 ?_
  refine wcV (As := [.int (xs (nI j + 1).toNatClampNeg)]) (rest := [.int r]) ⟨hx, hb, hml, hown, hts⟩ (c_X9_tastes l X mi ml ma mb (xs (nI j + 1).toNatClampNeg) e2) ⟨w_1229, w_1230, w_1231, w_58, w_1232⟩ hd_X9_tastes rfl rfl ⟨(Nat.le_of_ble_eq_true rfl), (Nat.le_of_ble_eq_true rfl)⟩ hce mPre_blind (va_recv (ci := 5) (q0 := 0) K.1 hPM rfl rfl) (mPre_call hPM K.1 K.2.2.1) hS K.2.2.2.2.1 rfl rfl hl.1 (Nat.le_of_ble_eq_true rfl) dL_law_1309 (fun H locs hPM hk hS => ?_)
  have hPG := keepG K hPG hk
  exact lv_icmp_eq (tgt := 1487) hx hb dL_law_1312 (by decide) (fun _ => kk _ _ _ _ _ _ _ _ _ _ _ _ _ hPG hPM R' hS) (fun cN => absurd rfl cN)
set_option maxHeartbeats 4000000 in
set_option maxRecDepth 100000 in
/-- sour -/
theorem lc_39 (C0 : lw_At p s m meth c b L xs) (K : LCs s X) {j : Nat} (hj : j + 6 ≤ L) (hL : L ≤ 384) (hce : ce + 0 ≤ room_1.cells ∧ sl + 0 ≤ room_1.slots) (hPG : va_P X.1 vwCl (cG X gi gl ga vS vF sN sF) H) (hPM : va_P X.1 vwCl (cM X mi ml ma mb) H) (R : Rel gi gl ga vS vF sN sF mi ml ma) (hS : va_S (fun q => s.heap.size ≤ q) s.heap H locs) (hl : lv_has ls 4 [(3, .int (nI j)), (2, .ref (xB X 0)), (1, .ref (xA X 0)), (0, .ref b)]) (kk : ∀ (gi : Nat → Int32) (gl : Nat → Int64) (ga : Nat → Nat → Int32) (vS : Nat → Nat → Int32) (vF : Nat → Nat → Nat → Int32) (sN : Nat → Int32) (sF : Nat → Nat → Int32) (mi : Nat → Int32) (ml : Nat → Int64) (ma : Nat → Nat → Int32) (mb : Nat → Nat → Int64) (H : Heap) (locs : List Loc), va_P X.1 vwCl (cG X gi gl ga vS vF sN sF) H → va_P X.1 vwCl (cM X mi ml ma mb) H → Rel gi gl ga vS vF sN sF mi ml ma → va_S (fun q => s.heap.size ≤ q) s.heap H locs → W p l e room_1 s m #[Value.ref b] below meth c H locs ce sl Q (F0 m 1487 ls [])) : W p l e room_1 s m #[Value.ref b] below meth c H locs ce sl Q (F0 m 1317 ls []) := by
  obtain ⟨hx, hb, hr, hml, hown, hts0, hX, hbl, hlocks, hgv⟩ := id C0
  have hts := lw_hts hts0
  have hown : s.vm.findClass RL = some m.cls := hown
  have hbA : ¬ (fun q : Nat => s.heap.size ≤ q) b := Nat.not_le.mpr hbl
  have lin : ∀ k, k < 6 → vp_in (nI j + nI k) L := fun k hk => by rw [nI_add]; exact vp_in_nI (by omega) (by omega)
  obtain ⟨r, gi', ga', mi', ma', e1, e2, R'⟩ := st_sour R (xs (nI j + 1).toNatClampNeg)
  refine lv_aload_n hx hb dL_law_1317 rfl (lv_at hl 2 rfl) ?_
  refine lv_aload_n hx hb dL_law_1318 rfl (lv_at hl 3 rfl) ?_
  refine lv_iload_n hx hb dL_law_1319 rfl (lv_at hl 0 rfl) ?_
  refine lv_iconst (v := 1) hx hb dL_law_1320 (by decide) ?_
  refine lv_iadd hx hb dL_law_1321 ?_
  refine va_sld hx hb hX hbl hbA hS (lin 1 (by decide)) dL_law_1322 ?_
  refine wcV (As := [.int (xs (nI j + 1).toNatClampNeg)]) (rest := []) ⟨hx, hb, hml, hown, hts⟩ (c_X8_sour l X gi gl ga vS vF sN sF (xs (nI j + 1).toNatClampNeg) e1) ⟨w_704, w_705, w_706, w_52, w_707⟩ hd_X8_sour rfl rfl ⟨(Nat.le_of_ble_eq_true rfl), (Nat.le_of_ble_eq_true rfl)⟩ hce gPre_blind (va_recv (ci := 4) (q0 := 0) K.1 hPG rfl rfl) (gPre_law K hPG hS) hS K.2.2.2.1 rfl rfl hl.1 (Nat.le_of_ble_eq_true rfl) dL_law_1323 (fun H locs hPG hk hS => ?_)
  have hPM := keepM K hPM hk
  refine lv_aload_n hx hb dL_law_1326 rfl (lv_at hl 1 rfl) ?_
  refine lv_aload_n hx hb dL_law_1327 rfl (lv_at hl 3 rfl) ?_
  refine lv_iload_n hx hb dL_law_1328 rfl (lv_at hl 0 rfl) ?_
  refine lv_iconst (v := 1) hx hb dL_law_1329 (by decide) ?_
  refine lv_iadd hx hb dL_law_1330 ?_
  refine va_sld hx hb hX hbl hbA hS (lin 1 (by decide)) dL_law_1331 ?_
  refine wcV (As := [.int (xs (nI j + 1).toNatClampNeg)]) (rest := [.int r]) ⟨hx, hb, hml, hown, hts⟩ (c_X9_sour l X mi ml ma mb (xs (nI j + 1).toNatClampNeg) e2) ⟨w_1241, w_1242, w_1243, w_58, w_1244⟩ hd_X9_sour rfl rfl ⟨(Nat.le_of_ble_eq_true rfl), (Nat.le_of_ble_eq_true rfl)⟩ hce mPre_blind (va_recv (ci := 5) (q0 := 0) K.1 hPM rfl rfl) (mPre_call hPM K.1 K.2.2.1) hS K.2.2.2.2.1 rfl rfl hl.1 (Nat.le_of_ble_eq_true rfl) dL_law_1332 (fun H locs hPM hk hS => ?_)
  have hPG := keepG K hPG hk
  exact lv_icmp_eq (tgt := 1487) hx hb dL_law_1335 (by decide) (fun _ => kk _ _ _ _ _ _ _ _ _ _ _ _ _ hPG hPM R' hS) (fun cN => absurd rfl cN)
set_option maxHeartbeats 4000000 in
set_option maxRecDepth 100000 in
/-- lots -/
theorem lc_40 (C0 : lw_At p s m meth c b L xs) (K : LCs s X) {j : Nat} (hj : j + 6 ≤ L) (hL : L ≤ 384) (hce : ce + 0 ≤ room_1.cells ∧ sl + 0 ≤ room_1.slots) (hPG : va_P X.1 vwCl (cG X gi gl ga vS vF sN sF) H) (hPM : va_P X.1 vwCl (cM X mi ml ma mb) H) (R : Rel gi gl ga vS vF sN sF mi ml ma) (hS : va_S (fun q => s.heap.size ≤ q) s.heap H locs) (hl : lv_has ls 4 [(3, .int (nI j)), (2, .ref (xB X 0)), (1, .ref (xA X 0)), (0, .ref b)]) (kk : ∀ (gi : Nat → Int32) (gl : Nat → Int64) (ga : Nat → Nat → Int32) (vS : Nat → Nat → Int32) (vF : Nat → Nat → Nat → Int32) (sN : Nat → Int32) (sF : Nat → Nat → Int32) (mi : Nat → Int32) (ml : Nat → Int64) (ma : Nat → Nat → Int32) (mb : Nat → Nat → Int64) (H : Heap) (locs : List Loc), va_P X.1 vwCl (cG X gi gl ga vS vF sN sF) H → va_P X.1 vwCl (cM X mi ml ma mb) H → Rel gi gl ga vS vF sN sF mi ml ma → va_S (fun q => s.heap.size ≤ q) s.heap H locs → W p l e room_1 s m #[Value.ref b] below meth c H locs ce sl Q (F0 m 1487 ls [])) : W p l e room_1 s m #[Value.ref b] below meth c H locs ce sl Q (F0 m 1340 ls []) := by
  obtain ⟨hx, hb, hr, hml, hown, hts0, hX, hbl, hlocks, hgv⟩ := id C0
  have hts := lw_hts hts0
  have hown : s.vm.findClass RL = some m.cls := hown
  have hbA : ¬ (fun q : Nat => s.heap.size ≤ q) b := Nat.not_le.mpr hbl
  have lin : ∀ k, k < 6 → vp_in (nI j + nI k) L := fun k hk => by rw [nI_add]; exact vp_in_nI (by omega) (by omega)
  obtain ⟨r, vS', vF', mi', ma', e1, e2, R'⟩ := st_lots R (xs (nI j + 1).toNatClampNeg) (xs (nI j + 2).toNatClampNeg)
  refine lv_aload_n hx hb dL_law_1340 rfl (lv_at hl 2 rfl) ?_
  refine lv_aload_n hx hb dL_law_1341 rfl (lv_at hl 3 rfl) ?_
  refine lv_iload_n hx hb dL_law_1342 rfl (lv_at hl 0 rfl) ?_
  refine lv_iconst (v := 1) hx hb dL_law_1343 (by decide) ?_
  refine lv_iadd hx hb dL_law_1344 ?_
  refine va_sld hx hb hX hbl hbA hS (lin 1 (by decide)) dL_law_1345 ?_
  refine lv_aload_n hx hb dL_law_1346 rfl (lv_at hl 3 rfl) ?_
  refine lv_iload_n hx hb dL_law_1347 rfl (lv_at hl 0 rfl) ?_
  refine lv_iconst (v := 2) hx hb dL_law_1348 (by decide) ?_
  refine lv_iadd hx hb dL_law_1349 ?_
  refine va_sld hx hb hX hbl hbA hS (lin 2 (by decide)) dL_law_1350 ?_
  refine wcV (As := [.int (xs (nI j + 1).toNatClampNeg), .int (xs (nI j + 2).toNatClampNeg)]) (rest := []) ⟨hx, hb, hml, hown, hts⟩ (c_X8_lots l X gi gl ga vS vF sN sF (xs (nI j + 1).toNatClampNeg) (xs (nI j + 2).toNatClampNeg) e1) ⟨w_708, w_709, w_710, w_52, w_711⟩ hd_X8_lots rfl rfl ⟨(Nat.le_of_ble_eq_true rfl), (Nat.le_of_ble_eq_true rfl)⟩ hce gPre_blind (va_recv (ci := 4) (q0 := 0) K.1 hPG rfl rfl) (gPre_law K hPG hS) hS K.2.2.2.1 rfl rfl hl.1 (Nat.le_of_ble_eq_true rfl) dL_law_1351 (fun H locs hPG hk hS => ?_)
  have hPM := keepM K hPM hk
  refine lv_aload_n hx hb dL_law_1354 rfl (lv_at hl 1 rfl) ?_
  refine lv_aload_n hx hb dL_law_1355 rfl (lv_at hl 3 rfl) ?_
  refine lv_iload_n hx hb dL_law_1356 rfl (lv_at hl 0 rfl) ?_
  refine lv_iconst (v := 1) hx hb dL_law_1357 (by decide) ?_
  refine lv_iadd hx hb dL_law_1358 ?_
  refine va_sld hx hb hX hbl hbA hS (lin 1 (by decide)) dL_law_1359 ?_
  refine lv_aload_n hx hb dL_law_1360 rfl (lv_at hl 3 rfl) ?_
  refine lv_iload_n hx hb dL_law_1361 rfl (lv_at hl 0 rfl) ?_
  refine lv_iconst (v := 2) hx hb dL_law_1362 (by decide) ?_
  refine lv_iadd hx hb dL_law_1363 ?_
  refine va_sld hx hb hX hbl hbA hS (lin 2 (by decide)) dL_law_1364 ?_
  refine wcV (As := [.int (xs (nI j + 1).toNatClampNeg), .int (xs (nI j + 2).toNatClampNeg)]) (rest := [.int r]) ⟨hx, hb, hml, hown, hts⟩ (c_X9_lots l X mi ml ma mb (xs (nI j + 1).toNatClampNeg) (xs (nI j + 2).toNatClampNeg) e2) ⟨w_1245, w_1246, w_1247, w_58, w_1248⟩ hd_X9_lots rfl rfl ⟨(Nat.le_of_ble_eq_true rfl), (Nat.le_of_ble_eq_true rfl)⟩ hce mPre_blind (va_recv (ci := 5) (q0 := 0) K.1 hPM rfl rfl) (mPre_call hPM K.1 K.2.2.1) hS K.2.2.2.2.1 rfl rfl hl.1 (Nat.le_of_ble_eq_true rfl) dL_law_1365 (fun H locs hPM hk hS => ?_)
  have hPG := keepG K hPG hk
  exact lv_icmp_eq (tgt := 1487) hx hb dL_law_1368 (by decide) (fun _ => kk _ _ _ _ _ _ _ _ _ _ _ _ _ hPG hPM R' hS) (fun cN => absurd rfl cN)
set_option maxHeartbeats 4000000 in
set_option maxRecDepth 100000 in
/-- asked -/
theorem lc_41 (C0 : lw_At p s m meth c b L xs) (K : LCs s X) {j : Nat} (hj : j + 6 ≤ L) (hL : L ≤ 384) (hce : ce + 0 ≤ room_1.cells ∧ sl + 0 ≤ room_1.slots) (hPG : va_P X.1 vwCl (cG X gi gl ga vS vF sN sF) H) (hPM : va_P X.1 vwCl (cM X mi ml ma mb) H) (R : Rel gi gl ga vS vF sN sF mi ml ma) (hS : va_S (fun q => s.heap.size ≤ q) s.heap H locs) (hl : lv_has ls 4 [(3, .int (nI j)), (2, .ref (xB X 0)), (1, .ref (xA X 0)), (0, .ref b)]) (kk : ∀ (gi : Nat → Int32) (gl : Nat → Int64) (ga : Nat → Nat → Int32) (vS : Nat → Nat → Int32) (vF : Nat → Nat → Nat → Int32) (sN : Nat → Int32) (sF : Nat → Nat → Int32) (mi : Nat → Int32) (ml : Nat → Int64) (ma : Nat → Nat → Int32) (mb : Nat → Nat → Int64) (H : Heap) (locs : List Loc), va_P X.1 vwCl (cG X gi gl ga vS vF sN sF) H → va_P X.1 vwCl (cM X mi ml ma mb) H → Rel gi gl ga vS vF sN sF mi ml ma → va_S (fun q => s.heap.size ≤ q) s.heap H locs → W p l e room_1 s m #[Value.ref b] below meth c H locs ce sl Q (F0 m 1487 ls [])) : W p l e room_1 s m #[Value.ref b] below meth c H locs ce sl Q (F0 m 1373 ls []) := by
  obtain ⟨hx, hb, hr, hml, hown, hts0, hX, hbl, hlocks, hgv⟩ := id C0
  have hts := lw_hts hts0
  have hown : s.vm.findClass RL = some m.cls := hown
  have hbA : ¬ (fun q : Nat => s.heap.size ≤ q) b := Nat.not_le.mpr hbl
  have lin : ∀ k, k < 6 → vp_in (nI j + nI k) L := fun k hk => by rw [nI_add]; exact vp_in_nI (by omega) (by omega)
  obtain ⟨r, e1, e2⟩ := st_asked R
  refine lv_aload_n hx hb dL_law_1373 rfl (lv_at hl 2 rfl) ?_
  refine rcV (As := []) (rest := []) ⟨hx, hb, hml, hown, hts⟩ (c_X8_asked l X gi gl ga vS vF sN sF e1) ⟨w_723, w_724, w_725, w_52, w_726⟩ hd_X8_asked rfl rfl ⟨(Nat.le_of_ble_eq_true rfl), (Nat.le_of_ble_eq_true rfl)⟩ hce gPre_blind (va_recv (ci := 4) (q0 := 0) K.1 hPG rfl rfl) (gPre_law K hPG hS) rfl rfl hl.1 (Nat.le_of_ble_eq_true rfl) dL_law_1374 ?_
  refine lv_aload_n hx hb dL_law_1377 rfl (lv_at hl 1 rfl) ?_
  refine rcV (As := []) (rest := [.int r]) ⟨hx, hb, hml, hown, hts⟩ (c_X9_asked l X mi ml ma mb e2) ⟨w_1258, w_1259, w_1260, w_58, w_1261⟩ hd_X9_asked rfl rfl ⟨(Nat.le_of_ble_eq_true rfl), (Nat.le_of_ble_eq_true rfl)⟩ hce mPre_blind (va_recv (ci := 5) (q0 := 0) K.1 hPM rfl rfl) (mPre_call hPM K.1 K.2.2.1) rfl rfl hl.1 (Nat.le_of_ble_eq_true rfl) dL_law_1378 ?_
  exact lv_icmp_eq (tgt := 1487) hx hb dL_law_1381 (by decide) (fun _ => kk _ _ _ _ _ _ _ _ _ _ _ _ _ hPG hPM R hS) (fun cN => absurd rfl cN)
set_option maxHeartbeats 4000000 in
set_option maxRecDepth 100000 in
/-- upper -/
theorem lc_42 (C0 : lw_At p s m meth c b L xs) (K : LCs s X) {j : Nat} (hj : j + 6 ≤ L) (hL : L ≤ 384) (hce : ce + 0 ≤ room_1.cells ∧ sl + 0 ≤ room_1.slots) (hPG : va_P X.1 vwCl (cG X gi gl ga vS vF sN sF) H) (hPM : va_P X.1 vwCl (cM X mi ml ma mb) H) (R : Rel gi gl ga vS vF sN sF mi ml ma) (hS : va_S (fun q => s.heap.size ≤ q) s.heap H locs) (hl : lv_has ls 4 [(3, .int (nI j)), (2, .ref (xB X 0)), (1, .ref (xA X 0)), (0, .ref b)]) (kk : ∀ (gi : Nat → Int32) (gl : Nat → Int64) (ga : Nat → Nat → Int32) (vS : Nat → Nat → Int32) (vF : Nat → Nat → Nat → Int32) (sN : Nat → Int32) (sF : Nat → Nat → Int32) (mi : Nat → Int32) (ml : Nat → Int64) (ma : Nat → Nat → Int32) (mb : Nat → Nat → Int64) (H : Heap) (locs : List Loc), va_P X.1 vwCl (cG X gi gl ga vS vF sN sF) H → va_P X.1 vwCl (cM X mi ml ma mb) H → Rel gi gl ga vS vF sN sF mi ml ma → va_S (fun q => s.heap.size ≤ q) s.heap H locs → W p l e room_1 s m #[Value.ref b] below meth c H locs ce sl Q (F0 m 1487 ls [])) : W p l e room_1 s m #[Value.ref b] below meth c H locs ce sl Q (F0 m 1386 ls []) := by
  obtain ⟨hx, hb, hr, hml, hown, hts0, hX, hbl, hlocks, hgv⟩ := id C0
  have hts := lw_hts hts0
  have hown : s.vm.findClass RL = some m.cls := hown
  have hbA : ¬ (fun q : Nat => s.heap.size ≤ q) b := Nat.not_le.mpr hbl
  have lin : ∀ k, k < 6 → vp_in (nI j + nI k) L := fun k hk => by rw [nI_add]; exact vp_in_nI (by omega) (by omega)
  obtain ⟨r, e1, e2⟩ := st_upper R
  refine lv_aload_n hx hb dL_law_1386 rfl (lv_at hl 2 rfl) ?_
  refine rcV (As := []) (rest := []) ⟨hx, hb, hml, hown, hts⟩ (c_X8_upper l X gi gl ga vS vF sN sF e1) ⟨w_727, w_728, w_729, w_52, w_730⟩ hd_X8_upper rfl rfl ⟨(Nat.le_of_ble_eq_true rfl), (Nat.le_of_ble_eq_true rfl)⟩ hce gPre_blind (va_recv (ci := 4) (q0 := 0) K.1 hPG rfl rfl) (gPre_law K hPG hS) rfl rfl hl.1 (Nat.le_of_ble_eq_true rfl) dL_law_1387 ?_
  refine lv_aload_n hx hb dL_law_1390 rfl (lv_at hl 1 rfl) ?_
  refine rcV (As := []) (rest := [.long r]) ⟨hx, hb, hml, hown, hts⟩ (c_X9_upper l X mi ml ma mb e2) ⟨w_1262, w_1263, w_1264, w_58, w_1265⟩ hd_X9_upper rfl rfl ⟨(Nat.le_of_ble_eq_true rfl), (Nat.le_of_ble_eq_true rfl)⟩ hce mPre_blind (va_recv (ci := 5) (q0 := 0) K.1 hPM rfl rfl) (mPre_call hPM K.1 K.2.2.1) rfl rfl hl.1 (Nat.le_of_ble_eq_true rfl) dL_law_1391 ?_
  refine W.lcmp hx hb dL_law_1394 ?_
  exact lv_if_eq (tgt := 1487) hx hb dL_law_1395 (by decide) (fun _ => kk _ _ _ _ _ _ _ _ _ _ _ _ _ hPG hPM R hS) (fun cN => absurd (lg_self _) cN)
set_option maxHeartbeats 4000000 in
set_option maxRecDepth 100000 in
/-- lower -/
theorem lc_43 (C0 : lw_At p s m meth c b L xs) (K : LCs s X) {j : Nat} (hj : j + 6 ≤ L) (hL : L ≤ 384) (hce : ce + 0 ≤ room_1.cells ∧ sl + 0 ≤ room_1.slots) (hPG : va_P X.1 vwCl (cG X gi gl ga vS vF sN sF) H) (hPM : va_P X.1 vwCl (cM X mi ml ma mb) H) (R : Rel gi gl ga vS vF sN sF mi ml ma) (hS : va_S (fun q => s.heap.size ≤ q) s.heap H locs) (hl : lv_has ls 4 [(3, .int (nI j)), (2, .ref (xB X 0)), (1, .ref (xA X 0)), (0, .ref b)]) (kk : ∀ (gi : Nat → Int32) (gl : Nat → Int64) (ga : Nat → Nat → Int32) (vS : Nat → Nat → Int32) (vF : Nat → Nat → Nat → Int32) (sN : Nat → Int32) (sF : Nat → Nat → Int32) (mi : Nat → Int32) (ml : Nat → Int64) (ma : Nat → Nat → Int32) (mb : Nat → Nat → Int64) (H : Heap) (locs : List Loc), va_P X.1 vwCl (cG X gi gl ga vS vF sN sF) H → va_P X.1 vwCl (cM X mi ml ma mb) H → Rel gi gl ga vS vF sN sF mi ml ma → va_S (fun q => s.heap.size ≤ q) s.heap H locs → W p l e room_1 s m #[Value.ref b] below meth c H locs ce sl Q (F0 m 1487 ls [])) : W p l e room_1 s m #[Value.ref b] below meth c H locs ce sl Q (F0 m 1400 ls []) := by
  obtain ⟨hx, hb, hr, hml, hown, hts0, hX, hbl, hlocks, hgv⟩ := id C0
  have hts := lw_hts hts0
  have hown : s.vm.findClass RL = some m.cls := hown
  have hbA : ¬ (fun q : Nat => s.heap.size ≤ q) b := Nat.not_le.mpr hbl
  have lin : ∀ k, k < 6 → vp_in (nI j + nI k) L := fun k hk => by rw [nI_add]; exact vp_in_nI (by omega) (by omega)
  obtain ⟨r, e1, e2⟩ := st_lower R
  refine lv_aload_n hx hb dL_law_1400 rfl (lv_at hl 2 rfl) ?_
  refine rcV (As := []) (rest := []) ⟨hx, hb, hml, hown, hts⟩ (c_X8_lower l X gi gl ga vS vF sN sF e1) ⟨w_731, w_732, w_733, w_52, w_734⟩ hd_X8_lower rfl rfl ⟨(Nat.le_of_ble_eq_true rfl), (Nat.le_of_ble_eq_true rfl)⟩ hce gPre_blind (va_recv (ci := 4) (q0 := 0) K.1 hPG rfl rfl) (gPre_law K hPG hS) rfl rfl hl.1 (Nat.le_of_ble_eq_true rfl) dL_law_1401 ?_
  refine lv_aload_n hx hb dL_law_1404 rfl (lv_at hl 1 rfl) ?_
  refine rcV (As := []) (rest := [.long r]) ⟨hx, hb, hml, hown, hts⟩ (c_X9_lower l X mi ml ma mb e2) ⟨w_1266, w_1267, w_1268, w_58, w_1269⟩ hd_X9_lower rfl rfl ⟨(Nat.le_of_ble_eq_true rfl), (Nat.le_of_ble_eq_true rfl)⟩ hce mPre_blind (va_recv (ci := 5) (q0 := 0) K.1 hPM rfl rfl) (mPre_call hPM K.1 K.2.2.1) rfl rfl hl.1 (Nat.le_of_ble_eq_true rfl) dL_law_1405 ?_
  refine W.lcmp hx hb dL_law_1408 ?_
  exact lv_if_eq (tgt := 1487) hx hb dL_law_1409 (by decide) (fun _ => kk _ _ _ _ _ _ _ _ _ _ _ _ _ hPG hPM R hS) (fun cN => absurd (lg_self _) cN)
set_option maxHeartbeats 4000000 in
set_option maxRecDepth 100000 in
/-- count -/
theorem lc_44 (C0 : lw_At p s m meth c b L xs) (K : LCs s X) {j : Nat} (hj : j + 6 ≤ L) (hL : L ≤ 384) (hce : ce + 0 ≤ room_1.cells ∧ sl + 0 ≤ room_1.slots) (hPG : va_P X.1 vwCl (cG X gi gl ga vS vF sN sF) H) (hPM : va_P X.1 vwCl (cM X mi ml ma mb) H) (R : Rel gi gl ga vS vF sN sF mi ml ma) (hS : va_S (fun q => s.heap.size ≤ q) s.heap H locs) (hl : lv_has ls 4 [(3, .int (nI j)), (2, .ref (xB X 0)), (1, .ref (xA X 0)), (0, .ref b)]) (kk : ∀ (gi : Nat → Int32) (gl : Nat → Int64) (ga : Nat → Nat → Int32) (vS : Nat → Nat → Int32) (vF : Nat → Nat → Nat → Int32) (sN : Nat → Int32) (sF : Nat → Nat → Int32) (mi : Nat → Int32) (ml : Nat → Int64) (ma : Nat → Nat → Int32) (mb : Nat → Nat → Int64) (H : Heap) (locs : List Loc), va_P X.1 vwCl (cG X gi gl ga vS vF sN sF) H → va_P X.1 vwCl (cM X mi ml ma mb) H → Rel gi gl ga vS vF sN sF mi ml ma → va_S (fun q => s.heap.size ≤ q) s.heap H locs → W p l e room_1 s m #[Value.ref b] below meth c H locs ce sl Q (F0 m 1487 ls [])) : W p l e room_1 s m #[Value.ref b] below meth c H locs ce sl Q (F0 m 1414 ls []) := by
  obtain ⟨hx, hb, hr, hml, hown, hts0, hX, hbl, hlocks, hgv⟩ := id C0
  have hts := lw_hts hts0
  have hown : s.vm.findClass RL = some m.cls := hown
  have hbA : ¬ (fun q : Nat => s.heap.size ≤ q) b := Nat.not_le.mpr hbl
  have lin : ∀ k, k < 6 → vp_in (nI j + nI k) L := fun k hk => by rw [nI_add]; exact vp_in_nI (by omega) (by omega)
  obtain ⟨r, e1, e2⟩ := st_count R (xs (nI j + 1).toNatClampNeg)
  refine lv_aload_n hx hb dL_law_1414 rfl (lv_at hl 2 rfl) ?_
  refine lv_aload_n hx hb dL_law_1415 rfl (lv_at hl 3 rfl) ?_
  refine lv_iload_n hx hb dL_law_1416 rfl (lv_at hl 0 rfl) ?_
  refine lv_iconst (v := 1) hx hb dL_law_1417 (by decide) ?_
  refine lv_iadd hx hb dL_law_1418 ?_
  refine va_sld hx hb hX hbl hbA hS (lin 1 (by decide)) dL_law_1419 ?_
  refine rcV (As := [.int (xs (nI j + 1).toNatClampNeg)]) (rest := []) ⟨hx, hb, hml, hown, hts⟩ (c_X8_count l X gi gl ga vS vF sN sF (xs (nI j + 1).toNatClampNeg) e1) ⟨w_735, w_736, w_737, w_52, w_738⟩ hd_X8_count rfl rfl ⟨(Nat.le_of_ble_eq_true rfl), (Nat.le_of_ble_eq_true rfl)⟩ hce gPre_blind (va_recv (ci := 4) (q0 := 0) K.1 hPG rfl rfl) (gPre_law K hPG hS) rfl rfl hl.1 (Nat.le_of_ble_eq_true rfl) dL_law_1420 ?_
  refine lv_aload_n hx hb dL_law_1423 rfl (lv_at hl 1 rfl) ?_
  refine lv_aload_n hx hb dL_law_1424 rfl (lv_at hl 3 rfl) ?_
  refine lv_iload_n hx hb dL_law_1425 rfl (lv_at hl 0 rfl) ?_
  refine lv_iconst (v := 1) hx hb dL_law_1426 (by decide) ?_
  refine lv_iadd hx hb dL_law_1427 ?_
  refine va_sld hx hb hX hbl hbA hS (lin 1 (by decide)) dL_law_1428 ?_
  refine rcV (As := [.int (xs (nI j + 1).toNatClampNeg)]) (rest := [.int r]) ⟨hx, hb, hml, hown, hts⟩ (c_X9_count l X mi ml ma mb (xs (nI j + 1).toNatClampNeg) e2) ⟨w_1270, w_1271, w_1272, w_58, w_1273⟩ hd_X9_count rfl rfl ⟨(Nat.le_of_ble_eq_true rfl), (Nat.le_of_ble_eq_true rfl)⟩ hce mPre_blind (va_recv (ci := 5) (q0 := 0) K.1 hPM rfl rfl) (mPre_call hPM K.1 K.2.2.1) rfl rfl hl.1 (Nat.le_of_ble_eq_true rfl) dL_law_1429 ?_
  exact lv_icmp_eq (tgt := 1487) hx hb dL_law_1432 (by decide) (fun _ => kk _ _ _ _ _ _ _ _ _ _ _ _ _ hPG hPM R hS) (fun cN => absurd rfl cN)
set_option maxHeartbeats 4000000 in
set_option maxRecDepth 100000 in
/-- finding -/
theorem lc_45 (C0 : lw_At p s m meth c b L xs) (K : LCs s X) {j : Nat} (hj : j + 6 ≤ L) (hL : L ≤ 384) (hce : ce + 0 ≤ room_1.cells ∧ sl + 0 ≤ room_1.slots) (hPG : va_P X.1 vwCl (cG X gi gl ga vS vF sN sF) H) (hPM : va_P X.1 vwCl (cM X mi ml ma mb) H) (R : Rel gi gl ga vS vF sN sF mi ml ma) (hS : va_S (fun q => s.heap.size ≤ q) s.heap H locs) (hl : lv_has ls 4 [(3, .int (nI j)), (2, .ref (xB X 0)), (1, .ref (xA X 0)), (0, .ref b)]) (kk : ∀ (gi : Nat → Int32) (gl : Nat → Int64) (ga : Nat → Nat → Int32) (vS : Nat → Nat → Int32) (vF : Nat → Nat → Nat → Int32) (sN : Nat → Int32) (sF : Nat → Nat → Int32) (mi : Nat → Int32) (ml : Nat → Int64) (ma : Nat → Nat → Int32) (mb : Nat → Nat → Int64) (H : Heap) (locs : List Loc), va_P X.1 vwCl (cG X gi gl ga vS vF sN sF) H → va_P X.1 vwCl (cM X mi ml ma mb) H → Rel gi gl ga vS vF sN sF mi ml ma → va_S (fun q => s.heap.size ≤ q) s.heap H locs → W p l e room_1 s m #[Value.ref b] below meth c H locs ce sl Q (F0 m 1487 ls [])) : W p l e room_1 s m #[Value.ref b] below meth c H locs ce sl Q (F0 m 1437 ls []) := by
  obtain ⟨hx, hb, hr, hml, hown, hts0, hX, hbl, hlocks, hgv⟩ := id C0
  have hts := lw_hts hts0
  have hown : s.vm.findClass RL = some m.cls := hown
  have hbA : ¬ (fun q : Nat => s.heap.size ≤ q) b := Nat.not_le.mpr hbl
  have lin : ∀ k, k < 6 → vp_in (nI j + nI k) L := fun k hk => by rw [nI_add]; exact vp_in_nI (by omega) (by omega)
  obtain ⟨r, e1, e2⟩ := st_finding R
  refine lv_aload_n hx hb dL_law_1437 rfl (lv_at hl 2 rfl) ?_
  refine rcV (As := []) (rest := []) ⟨hx, hb, hml, hown, hts⟩ (c_X8_finding l X gi gl ga vS vF sN sF e1) ⟨w_754, w_755, w_756, w_52, w_757⟩ hd_X8_finding rfl rfl ⟨(Nat.le_of_ble_eq_true rfl), (Nat.le_of_ble_eq_true rfl)⟩ hce gPre_blind (va_recv (ci := 4) (q0 := 0) K.1 hPG rfl rfl) (gPre_law K hPG hS) rfl rfl hl.1 (Nat.le_of_ble_eq_true rfl) dL_law_1438 ?_
  refine lv_aload_n hx hb dL_law_1441 rfl (lv_at hl 1 rfl) ?_
  refine rcV (As := []) (rest := [.int r]) ⟨hx, hb, hml, hown, hts⟩ (c_X9_finding l X mi ml ma mb e2) ⟨w_1281, w_1282, w_1283, w_58, w_1284⟩ hd_X9_finding rfl rfl ⟨(Nat.le_of_ble_eq_true rfl), (Nat.le_of_ble_eq_true rfl)⟩ hce mPre_blind (va_recv (ci := 5) (q0 := 0) K.1 hPM rfl rfl) (mPre_call hPM K.1 K.2.2.1) rfl rfl hl.1 (Nat.le_of_ble_eq_true rfl) dL_law_1442 ?_
  exact lv_icmp_eq (tgt := 1487) hx hb dL_law_1445 (by decide) (fun _ => kk _ _ _ _ _ _ _ _ _ _ _ _ _ hPG hPM R hS) (fun cN => absurd rfl cN)
set_option maxHeartbeats 4000000 in
set_option maxRecDepth 100000 in
/-- findings -/
theorem lc_46 (C0 : lw_At p s m meth c b L xs) (K : LCs s X) {j : Nat} (hj : j + 6 ≤ L) (hL : L ≤ 384) (hce : ce + 0 ≤ room_1.cells ∧ sl + 0 ≤ room_1.slots) (hPG : va_P X.1 vwCl (cG X gi gl ga vS vF sN sF) H) (hPM : va_P X.1 vwCl (cM X mi ml ma mb) H) (R : Rel gi gl ga vS vF sN sF mi ml ma) (hS : va_S (fun q => s.heap.size ≤ q) s.heap H locs) (hl : lv_has ls 4 [(3, .int (nI j)), (2, .ref (xB X 0)), (1, .ref (xA X 0)), (0, .ref b)]) (kk : ∀ (gi : Nat → Int32) (gl : Nat → Int64) (ga : Nat → Nat → Int32) (vS : Nat → Nat → Int32) (vF : Nat → Nat → Nat → Int32) (sN : Nat → Int32) (sF : Nat → Nat → Int32) (mi : Nat → Int32) (ml : Nat → Int64) (ma : Nat → Nat → Int32) (mb : Nat → Nat → Int64) (H : Heap) (locs : List Loc), va_P X.1 vwCl (cG X gi gl ga vS vF sN sF) H → va_P X.1 vwCl (cM X mi ml ma mb) H → Rel gi gl ga vS vF sN sF mi ml ma → va_S (fun q => s.heap.size ≤ q) s.heap H locs → W p l e room_1 s m #[Value.ref b] below meth c H locs ce sl Q (F0 m 1487 ls [])) : W p l e room_1 s m #[Value.ref b] below meth c H locs ce sl Q (F0 m 1450 ls []) := by
  obtain ⟨hx, hb, hr, hml, hown, hts0, hX, hbl, hlocks, hgv⟩ := id C0
  have hts := lw_hts hts0
  have hown : s.vm.findClass RL = some m.cls := hown
  have hbA : ¬ (fun q : Nat => s.heap.size ≤ q) b := Nat.not_le.mpr hbl
  have lin : ∀ k, k < 6 → vp_in (nI j + nI k) L := fun k hk => by rw [nI_add]; exact vp_in_nI (by omega) (by omega)
  obtain ⟨r, e1, e2⟩ := st_findings R (xs (nI j + 1).toNatClampNeg)
  refine lv_aload_n hx hb dL_law_1450 rfl (lv_at hl 2 rfl) ?_
  refine lv_aload_n hx hb dL_law_1451 rfl (lv_at hl 3 rfl) ?_
  refine lv_iload_n hx hb dL_law_1452 rfl (lv_at hl 0 rfl) ?_
  refine lv_iconst (v := 1) hx hb dL_law_1453 (by decide) ?_
  refine lv_iadd hx hb dL_law_1454 ?_
  refine va_sld hx hb hX hbl hbA hS (lin 1 (by decide)) dL_law_1455 ?_
  refine rcV (As := [.int (xs (nI j + 1).toNatClampNeg)]) (rest := []) ⟨hx, hb, hml, hown, hts⟩ (c_X8_findings l X gi gl ga vS vF sN sF (xs (nI j + 1).toNatClampNeg) e1) ⟨w_758, w_759, w_760, w_52, w_761⟩ hd_X8_findings rfl rfl ⟨(Nat.le_of_ble_eq_true rfl), (Nat.le_of_ble_eq_true rfl)⟩ hce gPre_blind (va_recv (ci := 4) (q0 := 0) K.1 hPG rfl rfl) (gPre_law K hPG hS) rfl rfl hl.1 (Nat.le_of_ble_eq_true rfl) dL_law_1456 ?_
  refine lv_aload_n hx hb dL_law_1459 rfl (lv_at hl 1 rfl) ?_
  refine lv_aload_n hx hb dL_law_1460 rfl (lv_at hl 3 rfl) ?_
  refine lv_iload_n hx hb dL_law_1461 rfl (lv_at hl 0 rfl) ?_
  refine lv_iconst (v := 1) hx hb dL_law_1462 (by decide) ?_
  refine lv_iadd hx hb dL_law_1463 ?_
  refine va_sld hx hb hX hbl hbA hS (lin 1 (by decide)) dL_law_1464 ?_
  refine rcV (As := [.int (xs (nI j + 1).toNatClampNeg)]) (rest := [.int r]) ⟨hx, hb, hml, hown, hts⟩ (c_X9_findings l X mi ml ma mb (xs (nI j + 1).toNatClampNeg) e2) ⟨w_1285, w_1286, w_1287, w_58, w_1288⟩ hd_X9_findings rfl rfl ⟨(Nat.le_of_ble_eq_true rfl), (Nat.le_of_ble_eq_true rfl)⟩ hce mPre_blind (va_recv (ci := 5) (q0 := 0) K.1 hPM rfl rfl) (mPre_call hPM K.1 K.2.2.1) rfl rfl hl.1 (Nat.le_of_ble_eq_true rfl) dL_law_1465 ?_
  exact lv_icmp_eq (tgt := 1487) hx hb dL_law_1468 (by decide) (fun _ => kk _ _ _ _ _ _ _ _ _ _ _ _ _ hPG hPM R hS) (fun cN => absurd rfl cN)
set_option maxHeartbeats 4000000 in
set_option maxRecDepth 100000 in
/-- digest -/
theorem lc_47 (C0 : lw_At p s m meth c b L xs) (K : LCs s X) {j : Nat} (hj : j + 6 ≤ L) (hL : L ≤ 384) (hce : ce + 0 ≤ room_1.cells ∧ sl + 0 ≤ room_1.slots) (hPG : va_P X.1 vwCl (cG X gi gl ga vS vF sN sF) H) (hPM : va_P X.1 vwCl (cM X mi ml ma mb) H) (R : Rel gi gl ga vS vF sN sF mi ml ma) (hS : va_S (fun q => s.heap.size ≤ q) s.heap H locs) (hl : lv_has ls 4 [(3, .int (nI j)), (2, .ref (xB X 0)), (1, .ref (xA X 0)), (0, .ref b)]) (kk : ∀ (gi : Nat → Int32) (gl : Nat → Int64) (ga : Nat → Nat → Int32) (vS : Nat → Nat → Int32) (vF : Nat → Nat → Nat → Int32) (sN : Nat → Int32) (sF : Nat → Nat → Int32) (mi : Nat → Int32) (ml : Nat → Int64) (ma : Nat → Nat → Int32) (mb : Nat → Nat → Int64) (H : Heap) (locs : List Loc), va_P X.1 vwCl (cG X gi gl ga vS vF sN sF) H → va_P X.1 vwCl (cM X mi ml ma mb) H → Rel gi gl ga vS vF sN sF mi ml ma → va_S (fun q => s.heap.size ≤ q) s.heap H locs → W p l e room_1 s m #[Value.ref b] below meth c H locs ce sl Q (F0 m 1487 ls [])) : W p l e room_1 s m #[Value.ref b] below meth c H locs ce sl Q (F0 m 1473 ls []) := by
  obtain ⟨hx, hb, hr, hml, hown, hts0, hX, hbl, hlocks, hgv⟩ := id C0
  have hts := lw_hts hts0
  have hown : s.vm.findClass RL = some m.cls := hown
  have hbA : ¬ (fun q : Nat => s.heap.size ≤ q) b := Nat.not_le.mpr hbl
  have lin : ∀ k, k < 6 → vp_in (nI j + nI k) L := fun k hk => by rw [nI_add]; exact vp_in_nI (by omega) (by omega)
  obtain ⟨r, e1, e2⟩ := st_digest R
  refine lv_aload_n hx hb dL_law_1473 rfl (lv_at hl 2 rfl) ?_
  refine rcV (As := []) (rest := []) ⟨hx, hb, hml, hown, hts⟩ (c_X8_digest l X gi gl ga vS vF sN sF e1) ⟨w_762, w_763, w_764, w_52, w_765⟩ hd_X8_digest rfl rfl ⟨(Nat.le_of_ble_eq_true rfl), (Nat.le_of_ble_eq_true rfl)⟩ hce gPre_blind (va_recv (ci := 4) (q0 := 0) K.1 hPG rfl rfl) (gPre_law K hPG hS) rfl rfl hl.1 (Nat.le_of_ble_eq_true rfl) dL_law_1474 ?_
  refine lv_aload_n hx hb dL_law_1477 rfl (lv_at hl 1 rfl) ?_
  refine rcV (As := []) (rest := [.long r]) ⟨hx, hb, hml, hown, hts⟩ (c_X9_digest l X mi ml ma mb e2) ⟨w_1289, w_1290, w_1291, w_58, w_1292⟩ hd_X9_digest rfl rfl ⟨(Nat.le_of_ble_eq_true rfl), (Nat.le_of_ble_eq_true rfl)⟩ hce mPre_blind (va_recv (ci := 5) (q0 := 0) K.1 hPM rfl rfl) (mPre_call hPM K.1 K.2.2.1) rfl rfl hl.1 (Nat.le_of_ble_eq_true rfl) dL_law_1478 ?_
  refine W.lcmp hx hb dL_law_1481 ?_
  exact lv_if_eq (tgt := 1487) hx hb dL_law_1482 (by decide) (fun _ => kk _ _ _ _ _ _ _ _ _ _ _ _ _ hPG hPM R hS) (fun cN => absurd (lg_self _) cN)
end
