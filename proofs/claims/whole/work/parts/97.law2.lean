section
variable {p : Program} {l : Launch} {e : Env} {s : State} {m : MethodId} {below : List Frame} {meth : Method} {c : Code} {b L : Nat} {xs : Nat → Int32} {H : Heap} {locs : List Loc} {ce sl : Nat} {Q : State → Prop} {ls : Array Slot} {X : gX}
variable {gi : Nat → Int32} {gl : Nat → Int64} {ga : Nat → Nat → Int32} {vS : Nat → Nat → Int32} {vF : Nat → Nat → Nat → Int32} {sN : Nat → Int32} {sF : Nat → Nat → Int32} {mi : Nat → Int32} {ml : Nat → Int64} {ma : Nat → Nat → Int32} {mb : Nat → Nat → Int64}
set_option maxHeartbeats 4000000 in
set_option maxRecDepth 100000 in
/-- stairs -/
theorem lc_24 (C0 : lw_At p s m meth c b L xs) (K : LCs s X) {j : Nat} (hj : j + 6 ≤ L) (hL : L ≤ 384) (hce : ce + 0 ≤ room_1.cells ∧ sl + 0 ≤ room_1.slots) (hPG : va_P X.1 vwCl (cG X gi gl ga vS vF sN sF) H) (hPM : va_P X.1 vwCl (cM X mi ml ma mb) H) (R : Rel gi gl ga vS vF sN sF mi ml ma) (hS : va_S (fun q => s.heap.size ≤ q) s.heap H locs) (hl : lv_has ls 4 [(3, .int (nI j)), (2, .ref (xB X 0)), (1, .ref (xA X 0)), (0, .ref b)]) (kk : ∀ (gi : Nat → Int32) (gl : Nat → Int64) (ga : Nat → Nat → Int32) (vS : Nat → Nat → Int32) (vF : Nat → Nat → Nat → Int32) (sN : Nat → Int32) (sF : Nat → Nat → Int32) (mi : Nat → Int32) (ml : Nat → Int64) (ma : Nat → Nat → Int32) (mb : Nat → Nat → Int64) (H : Heap) (locs : List Loc), va_P X.1 vwCl (cG X gi gl ga vS vF sN sF) H → va_P X.1 vwCl (cM X mi ml ma mb) H → Rel gi gl ga vS vF sN sF mi ml ma → va_S (fun q => s.heap.size ≤ q) s.heap H locs → W p l e room_1 s m #[Value.ref b] below meth c H locs ce sl Q (F0 m 1487 ls [])) : W p l e room_1 s m #[Value.ref b] below meth c H locs ce sl Q (F0 m 932 ls []) := by
  obtain ⟨hx, hb, hr, hml, hown, hts0, hX, hbl, hlocks, hgv⟩ := id C0
  have hts := lw_hts hts0
  have hown : s.vm.findClass RL = some m.cls := hown
  have hbA : ¬ (fun q : Nat => s.heap.size ≤ q) b := Nat.not_le.mpr hbl
  have lin : ∀ k, k < 6 → vp_in (nI j + nI k) L := fun k hk => by rw [nI_add]; exact vp_in_nI (by omega) (by omega)
  obtain ⟨r, e1, e2⟩ := st_stairs R.2.2.2 (xs (nI j + 1).toNatClampNeg)
  refine lv_aload_n hx hb dL_law_932 rfl (lv_at hl 2 rfl) ?_
  refine lv_aload_n hx hb dL_law_933 rfl (lv_at hl 3 rfl) ?_
  refine lv_iload_n hx hb dL_law_934 rfl (lv_at hl 0 rfl) ?_
  refine lv_iconst (v := 1) hx hb dL_law_935 (by decide) ?_
  refine lv_iadd hx hb dL_law_936 ?_
  refine va_sld hx hb hX hbl hbA hS (lin 1 (by decide)) dL_law_937 ?_
  refine rcV (As := [.int (xs (nI j + 1).toNatClampNeg)]) (rest := []) ⟨hx, hb, hml, hown, hts⟩ (c_X8_stairs l X gi gl ga vS vF sN sF (xs (nI j + 1).toNatClampNeg) e1) ⟨w_533, w_534, w_535, w_52, w_536⟩ hd_X8_stairs rfl rfl ⟨(Nat.le_of_ble_eq_true rfl), (Nat.le_of_ble_eq_true rfl)⟩ hce gPre_blind (va_recv (ci := 4) (q0 := 0) K.1 hPG rfl rfl) (gPre_law K hPG hS) rfl rfl hl.1 (Nat.le_of_ble_eq_true rfl) dL_law_938 ?_
  refine lv_aload_n hx hb dL_law_941 rfl (lv_at hl 1 rfl) ?_
  refine lv_aload_n hx hb dL_law_942 rfl (lv_at hl 3 rfl) ?_
  refine lv_iload_n hx hb dL_law_943 rfl (lv_at hl 0 rfl) ?_
  refine lv_iconst (v := 1) hx hb dL_law_944 (by decide) ?_
  refine lv_iadd hx hb dL_law_945 ?_
  refine va_sld hx hb hX hbl hbA hS (lin 1 (by decide)) dL_law_946 ?_
  refine rcV (As := [.int (xs (nI j + 1).toNatClampNeg)]) (rest := [.int r]) ⟨hx, hb, hml, hown, hts⟩ (c_X9_stairs l X mi ml ma mb (xs (nI j + 1).toNatClampNeg) e2) ⟨w_1129, w_1130, w_1131, w_58, w_1132⟩ hd_X9_stairs rfl rfl ⟨(Nat.le_of_ble_eq_true rfl), (Nat.le_of_ble_eq_true rfl)⟩ hce mPre_blind (va_recv (ci := 5) (q0 := 0) K.1 hPM rfl rfl) (mPre_call hPM K.1 K.2.2.1) rfl rfl hl.1 (Nat.le_of_ble_eq_true rfl) dL_law_947 ?_
  exact lv_icmp_eq (tgt := 1487) hx hb dL_law_950 (by decide) (fun _ => kk _ _ _ _ _ _ _ _ _ _ _ _ _ hPG hPM R hS) (fun cN => absurd rfl cN)
set_option maxHeartbeats 4000000 in
set_option maxRecDepth 100000 in
/-- part -/
theorem lc_25 (C0 : lw_At p s m meth c b L xs) (K : LCs s X) {j : Nat} (hj : j + 6 ≤ L) (hL : L ≤ 384) (hce : ce + 0 ≤ room_1.cells ∧ sl + 0 ≤ room_1.slots) (hPG : va_P X.1 vwCl (cG X gi gl ga vS vF sN sF) H) (hPM : va_P X.1 vwCl (cM X mi ml ma mb) H) (R : Rel gi gl ga vS vF sN sF mi ml ma) (hS : va_S (fun q => s.heap.size ≤ q) s.heap H locs) (hl : lv_has ls 4 [(3, .int (nI j)), (2, .ref (xB X 0)), (1, .ref (xA X 0)), (0, .ref b)]) (kk : ∀ (gi : Nat → Int32) (gl : Nat → Int64) (ga : Nat → Nat → Int32) (vS : Nat → Nat → Int32) (vF : Nat → Nat → Nat → Int32) (sN : Nat → Int32) (sF : Nat → Nat → Int32) (mi : Nat → Int32) (ml : Nat → Int64) (ma : Nat → Nat → Int32) (mb : Nat → Nat → Int64) (H : Heap) (locs : List Loc), va_P X.1 vwCl (cG X gi gl ga vS vF sN sF) H → va_P X.1 vwCl (cM X mi ml ma mb) H → Rel gi gl ga vS vF sN sF mi ml ma → va_S (fun q => s.heap.size ≤ q) s.heap H locs → W p l e room_1 s m #[Value.ref b] below meth c H locs ce sl Q (F0 m 1487 ls [])) : W p l e room_1 s m #[Value.ref b] below meth c H locs ce sl Q (F0 m 955 ls []) := by
  obtain ⟨hx, hb, hr, hml, hown, hts0, hX, hbl, hlocks, hgv⟩ := id C0
  have hts := lw_hts hts0
  have hown : s.vm.findClass RL = some m.cls := hown
  have hbA : ¬ (fun q : Nat => s.heap.size ≤ q) b := Nat.not_le.mpr hbl
  have lin : ∀ k, k < 6 → vp_in (nI j + nI k) L := fun k hk => by rw [nI_add]; exact vp_in_nI (by omega) (by omega)
  obtain ⟨r, gi', mi', e1, e2, R'⟩ := st_part R (xs (nI j + 1).toNatClampNeg) (xs (nI j + 2).toNatClampNeg)
  refine lv_aload_n hx hb dL_law_955 rfl (lv_at hl 2 rfl) ?_
  refine lv_aload_n hx hb dL_law_956 rfl (lv_at hl 3 rfl) ?_
  refine lv_iload_n hx hb dL_law_957 rfl (lv_at hl 0 rfl) ?_
  refine lv_iconst (v := 1) hx hb dL_law_958 (by decide) ?_
  refine lv_iadd hx hb dL_law_959 ?_
  refine va_sld hx hb hX hbl hbA hS (lin 1 (by decide)) dL_law_960 ?_
  refine lv_aload_n hx hb dL_law_961 rfl (lv_at hl 3 rfl) ?_
  refine lv_iload_n hx hb dL_law_962 rfl (lv_at hl 0 rfl) ?_
  refine lv_iconst (v := 2) hx hb dL_law_963 (by decide) ?_
  refine lv_iadd hx hb dL_law_964 ?_
  refine va_sld hx hb hX hbl hbA hS (lin 2 (by decide)) dL_law_965 ?_
  refine wcV (As := [.int (xs (nI j + 1).toNatClampNeg), .int (xs (nI j + 2).toNatClampNeg)]) (rest := []) ⟨hx, hb, hml, hown, hts⟩ (c_X8_part l X gi gl ga vS vF sN sF (xs (nI j + 1).toNatClampNeg) (xs (nI j + 2).toNatClampNeg) e1) ⟨w_541, w_542, w_543, w_52, w_544⟩ hd_X8_part rfl rfl ⟨(Nat.le_of_ble_eq_true rfl), (Nat.le_of_ble_eq_true rfl)⟩ hce gPre_blind (va_recv (ci := 4) (q0 := 0) K.1 hPG rfl rfl) (gPre_law K hPG hS) hS K.2.2.2.1 rfl rfl hl.1 (Nat.le_of_ble_eq_true rfl) dL_law_966 (fun H locs hPG hk hS => ?_)
  have hPM := keepM K hPM hk
  refine lv_aload_n hx hb dL_law_969 rfl (lv_at hl 1 rfl) ?_
  refine lv_aload_n hx hb dL_law_970 rfl (lv_at hl 3 rfl) ?_
  refine lv_iload_n hx hb dL_law_971 rfl (lv_at hl 0 rfl) ?_
  refine lv_iconst (v := 1) hx hb dL_law_972 (by decide) ?_
  refine lv_iadd hx hb dL_law_973 ?_
  refine va_sld hx hb hX hbl hbA hS (lin 1 (by decide)) dL_law_974 ?_
  refine lv_aload_n hx hb dL_law_975 rfl (lv_at hl 3 rfl) ?_
  refine lv_iload_n hx hb dL_law_976 rfl (lv_at hl 0 rfl) ?_
  refine lv_iconst (v := 2) hx hb dL_law_977 (by decide) ?_
  refine lv_iadd hx hb dL_law_978 ?_
  refine va_sld hx hb hX hbl hbA hS (lin 2 (by decide)) dL_law_979 ?_
  refine wcV (As := [.int (xs (nI j + 1).toNatClampNeg), .int (xs (nI j + 2).toNatClampNeg)]) (rest := [.int r]) ⟨hx, hb, hml, hown, hts⟩ (c_X9_part l X mi ml ma mb (xs (nI j + 1).toNatClampNeg) (xs (nI j + 2).toNatClampNeg) e2) ⟨w_1137, w_1138, w_1139, w_58, w_1140⟩ hd_X9_part rfl rfl ⟨(Nat.le_of_ble_eq_true rfl), (Nat.le_of_ble_eq_true rfl)⟩ hce mPre_blind (va_recv (ci := 5) (q0 := 0) K.1 hPM rfl rfl) (mPre_call hPM K.1 K.2.2.1) hS K.2.2.2.2.1 rfl rfl hl.1 (Nat.le_of_ble_eq_true rfl) dL_law_980 (fun H locs hPM hk hS => ?_)
  have hPG := keepG K hPG hk
  exact lv_icmp_eq (tgt := 1487) hx hb dL_law_983 (by decide) (fun _ => kk _ _ _ _ _ _ _ _ _ _ _ _ _ hPG hPM R' hS) (fun cN => absurd rfl cN)
set_option maxHeartbeats 4000000 in
set_option maxRecDepth 100000 in
/-- room -/
theorem lc_26 (C0 : lw_At p s m meth c b L xs) (K : LCs s X) {j : Nat} (hj : j + 6 ≤ L) (hL : L ≤ 384) (hce : ce + 0 ≤ room_1.cells ∧ sl + 0 ≤ room_1.slots) (hPG : va_P X.1 vwCl (cG X gi gl ga vS vF sN sF) H) (hPM : va_P X.1 vwCl (cM X mi ml ma mb) H) (R : Rel gi gl ga vS vF sN sF mi ml ma) (hS : va_S (fun q => s.heap.size ≤ q) s.heap H locs) (hl : lv_has ls 4 [(3, .int (nI j)), (2, .ref (xB X 0)), (1, .ref (xA X 0)), (0, .ref b)]) (kk : ∀ (gi : Nat → Int32) (gl : Nat → Int64) (ga : Nat → Nat → Int32) (vS : Nat → Nat → Int32) (vF : Nat → Nat → Nat → Int32) (sN : Nat → Int32) (sF : Nat → Nat → Int32) (mi : Nat → Int32) (ml : Nat → Int64) (ma : Nat → Nat → Int32) (mb : Nat → Nat → Int64) (H : Heap) (locs : List Loc), va_P X.1 vwCl (cG X gi gl ga vS vF sN sF) H → va_P X.1 vwCl (cM X mi ml ma mb) H → Rel gi gl ga vS vF sN sF mi ml ma → va_S (fun q => s.heap.size ≤ q) s.heap H locs → W p l e room_1 s m #[Value.ref b] below meth c H locs ce sl Q (F0 m 1487 ls [])) : W p l e room_1 s m #[Value.ref b] below meth c H locs ce sl Q (F0 m 988 ls []) := by
  obtain ⟨hx, hb, hr, hml, hown, hts0, hX, hbl, hlocks, hgv⟩ := id C0
  have hts := lw_hts hts0
  have hown : s.vm.findClass RL = some m.cls := hown
  have hbA : ¬ (fun q : Nat => s.heap.size ≤ q) b := Nat.not_le.mpr hbl
  have lin : ∀ k, k < 6 → vp_in (nI j + nI k) L := fun k hk => by rw [nI_add]; exact vp_in_nI (by omega) (by omega)
  obtain ⟨r, e1, e2⟩ := st_room R.2.2.2 (xs (nI j + 1).toNatClampNeg) (xs (nI j + 2).toNatClampNeg)
  refine lv_aload_n hx hb dL_law_988 rfl (lv_at hl 2 rfl) ?_
  refine lv_aload_n hx hb dL_law_989 rfl (lv_at hl 3 rfl) ?_
  refine lv_iload_n hx hb dL_law_990 rfl (lv_at hl 0 rfl) ?_
  refine lv_iconst (v := 1) hx hb dL_law_991 (by decide) ?_
  refine lv_iadd hx hb dL_law_992 ?_
  refine va_sld hx hb hX hbl hbA hS (lin 1 (by decide)) dL_law_993 ?_
  refine lv_aload_n hx hb dL_law_994 rfl (lv_at hl 3 rfl) ?_
  refine lv_iload_n hx hb dL_law_995 rfl (lv_at hl 0 rfl) ?_
  refine lv_iconst (v := 2) hx hb dL_law_996 (by decide) ?_
  refine lv_iadd hx hb dL_law_997 ?_
  refine va_sld hx hb hX hbl hbA hS (lin 2 (by decide)) dL_law_998 ?_
  refine rcV (As := [.int (xs (nI j + 1).toNatClampNeg), .int (xs (nI j + 2).toNatClampNeg)]) (rest := []) ⟨hx, hb, hml, hown, hts⟩ (c_X8_room l X gi gl ga vS vF sN sF (xs (nI j + 1).toNatClampNeg) (xs (nI j + 2).toNatClampNeg) e1) ⟨w_559, w_560, w_561, w_52, w_562⟩ hd_X8_room rfl rfl ⟨(Nat.le_of_ble_eq_true rfl), (Nat.le_of_ble_eq_true rfl)⟩ hce gPre_blind (va_recv (ci := 4) (q0 := 0) K.1 hPG rfl rfl) (gPre_law K hPG hS) rfl rfl hl.1 (Nat.le_of_ble_eq_true rfl) dL_law_999 ?_
  refine lv_aload_n hx hb dL_law_1002 rfl (lv_at hl 1 rfl) ?_
  refine lv_aload_n hx hb dL_law_1003 rfl (lv_at hl 3 rfl) ?_
  refine lv_iload_n hx hb dL_law_1004 rfl (lv_at hl 0 rfl) ?_
  refine lv_iconst (v := 1) hx hb dL_law_1005 (by decide) ?_
  refine lv_iadd hx hb dL_law_1006 ?_
  refine va_sld hx hb hX hbl hbA hS (lin 1 (by decide)) dL_law_1007 ?_
  refine lv_aload_n hx hb dL_law_1008 rfl (lv_at hl 3 rfl) ?_
  refine lv_iload_n hx hb dL_law_1009 rfl (lv_at hl 0 rfl) ?_
  refine lv_iconst (v := 2) hx hb dL_law_1010 (by decide) ?_
  refine lv_iadd hx hb dL_law_1011 ?_
  refine va_sld hx hb hX hbl hbA hS (lin 2 (by decide)) dL_law_1012 ?_
  refine rcV (As := [.int (xs (nI j + 1).toNatClampNeg), .int (xs (nI j + 2).toNatClampNeg)]) (rest := [.int r]) ⟨hx, hb, hml, hown, hts⟩ (c_X9_room l X mi ml ma mb (xs (nI j + 1).toNatClampNeg) (xs (nI j + 2).toNatClampNeg) e2) ⟨w_1152, w_1153, w_1154, w_58, w_1155⟩ hd_X9_room rfl rfl ⟨(Nat.le_of_ble_eq_true rfl), (Nat.le_of_ble_eq_true rfl)⟩ hce mPre_blind (va_recv (ci := 5) (q0 := 0) K.1 hPM rfl rfl) (mPre_call hPM K.1 K.2.2.1) rfl rfl hl.1 (Nat.le_of_ble_eq_true rfl) dL_law_1013 ?_
  exact lv_icmp_eq (tgt := 1487) hx hb dL_law_1016 (by decide) (fun _ => kk _ _ _ _ _ _ _ _ _ _ _ _ _ hPG hPM R hS) (fun cN => absurd rfl cN)
set_option maxHeartbeats 4000000 in
set_option maxRecDepth 100000 in
/-- place -/
theorem lc_27 (C0 : lw_At p s m meth c b L xs) (K : LCs s X) {j : Nat} (hj : j + 6 ≤ L) (hL : L ≤ 384) (hce : ce + 0 ≤ room_1.cells ∧ sl + 0 ≤ room_1.slots) (hPG : va_P X.1 vwCl (cG X gi gl ga vS vF sN sF) H) (hPM : va_P X.1 vwCl (cM X mi ml ma mb) H) (R : Rel gi gl ga vS vF sN sF mi ml ma) (hS : va_S (fun q => s.heap.size ≤ q) s.heap H locs) (hl : lv_has ls 4 [(3, .int (nI j)), (2, .ref (xB X 0)), (1, .ref (xA X 0)), (0, .ref b)]) (kk : ∀ (gi : Nat → Int32) (gl : Nat → Int64) (ga : Nat → Nat → Int32) (vS : Nat → Nat → Int32) (vF : Nat → Nat → Nat → Int32) (sN : Nat → Int32) (sF : Nat → Nat → Int32) (mi : Nat → Int32) (ml : Nat → Int64) (ma : Nat → Nat → Int32) (mb : Nat → Nat → Int64) (H : Heap) (locs : List Loc), va_P X.1 vwCl (cG X gi gl ga vS vF sN sF) H → va_P X.1 vwCl (cM X mi ml ma mb) H → Rel gi gl ga vS vF sN sF mi ml ma → va_S (fun q => s.heap.size ≤ q) s.heap H locs → W p l e room_1 s m #[Value.ref b] below meth c H locs ce sl Q (F0 m 1487 ls [])) : W p l e room_1 s m #[Value.ref b] below meth c H locs ce sl Q (F0 m 1021 ls []) := by
  obtain ⟨hx, hb, hr, hml, hown, hts0, hX, hbl, hlocks, hgv⟩ := id C0
  have hts := lw_hts hts0
  have hown : s.vm.findClass RL = some m.cls := hown
  have hbA : ¬ (fun q : Nat => s.heap.size ≤ q) b := Nat.not_le.mpr hbl
  have lin : ∀ k, k < 6 → vp_in (nI j + nI k) L := fun k hk => by rw [nI_add]; exact vp_in_nI (by omega) (by omega)
  obtain ⟨r, e1, e2⟩ := st_place R.2.2.2 (xs (nI j + 1).toNatClampNeg) (xs (nI j + 2).toNatClampNeg)
  refine lv_aload_n hx hb dL_law_1021 rfl (lv_at hl 2 rfl) ?_
  refine lv_aload_n hx hb dL_law_1022 rfl (lv_at hl 3 rfl) ?_
  refine lv_iload_n hx hb dL_law_1023 rfl (lv_at hl 0 rfl) ?_
  refine lv_iconst (v := 1) hx hb dL_law_1024 (by decide) ?_
  refine lv_iadd hx hb dL_law_1025 ?_
  refine va_sld hx hb hX hbl hbA hS (lin 1 (by decide)) dL_law_1026 ?_
  refine lv_aload_n hx hb dL_law_1027 rfl (lv_at hl 3 rfl) ?_
  refine lv_iload_n hx hb dL_law_1028 rfl (lv_at hl 0 rfl) ?_
  refine lv_iconst (v := 2) hx hb dL_law_1029 (by decide) ?_
  refine lv_iadd hx hb dL_law_1030 ?_
  refine va_sld hx hb hX hbl hbA hS (lin 2 (by decide)) dL_law_1031 ?_
  refine rcV (As := [.int (xs (nI j + 1).toNatClampNeg), .int (xs (nI j + 2).toNatClampNeg)]) (rest := []) ⟨hx, hb, hml, hown, hts⟩ (c_X8_place l X gi gl ga vS vF sN sF (xs (nI j + 1).toNatClampNeg) (xs (nI j + 2).toNatClampNeg) e1) ⟨w_569, w_570, w_571, w_52, w_572⟩ hd_X8_place rfl rfl ⟨(Nat.le_of_ble_eq_true rfl), (Nat.le_of_ble_eq_true rfl)⟩ hce gPre_blind (va_recv (ci := 4) (q0 := 0) K.1 hPG rfl rfl) (gPre_law K hPG hS) rfl rfl hl.1 (Nat.le_of_ble_eq_true rfl) dL_law_1032 ?_
  refine lv_aload_n hx hb dL_law_1035 rfl (lv_at hl 1 rfl) ?_
  refine lv_aload_n hx hb dL_law_1036 rfl (lv_at hl 3 rfl) ?_
  refine lv_iload_n hx hb dL_law_1037 rfl (lv_at hl 0 rfl) ?_
  refine lv_iconst (v := 1) hx hb dL_law_1038 (by decide) ?_
  refine lv_iadd hx hb dL_law_1039 ?_
  refine va_sld hx hb hX hbl hbA hS (lin 1 (by decide)) dL_law_1040 ?_
  refine lv_aload_n hx hb dL_law_1041 rfl (lv_at hl 3 rfl) ?_
  refine lv_iload_n hx hb dL_law_1042 rfl (lv_at hl 0 rfl) ?_
  refine lv_iconst (v := 2) hx hb dL_law_1043 (by decide) ?_
  refine lv_iadd hx hb dL_law_1044 ?_
  refine va_sld hx hb hX hbl hbA hS (lin 2 (by decide)) dL_law_1045 ?_
  refine rcV (As := [.int (xs (nI j + 1).toNatClampNeg), .int (xs (nI j + 2).toNatClampNeg)]) (rest := [.int r]) ⟨hx, hb, hml, hown, hts⟩ (c_X9_place l X mi ml ma mb (xs (nI j + 1).toNatClampNeg) (xs (nI j + 2).toNatClampNeg) e2) ⟨w_1156, w_1157, w_1158, w_58, w_1159⟩ hd_X9_place rfl rfl ⟨(Nat.le_of_ble_eq_true rfl), (Nat.le_of_ble_eq_true rfl)⟩ hce mPre_blind (va_recv (ci := 5) (q0 := 0) K.1 hPM rfl rfl) (mPre_call hPM K.1 K.2.2.1) rfl rfl hl.1 (Nat.le_of_ble_eq_true rfl) dL_law_1046 ?_
  exact lv_icmp_eq (tgt := 1487) hx hb dL_law_1049 (by decide) (fun _ => kk _ _ _ _ _ _ _ _ _ _ _ _ _ hPG hPM R hS) (fun cN => absurd rfl cN)
set_option maxHeartbeats 4000000 in
set_option maxRecDepth 100000 in
/-- fun -/
theorem lc_28 (C0 : lw_At p s m meth c b L xs) (K : LCs s X) {j : Nat} (hj : j + 6 ≤ L) (hL : L ≤ 384) (hce : ce + 0 ≤ room_1.cells ∧ sl + 0 ≤ room_1.slots) (hPG : va_P X.1 vwCl (cG X gi gl ga vS vF sN sF) H) (hPM : va_P X.1 vwCl (cM X mi ml ma mb) H) (R : Rel gi gl ga vS vF sN sF mi ml ma) (hS : va_S (fun q => s.heap.size ≤ q) s.heap H locs) (hl : lv_has ls 4 [(3, .int (nI j)), (2, .ref (xB X 0)), (1, .ref (xA X 0)), (0, .ref b)]) (kk : ∀ (gi : Nat → Int32) (gl : Nat → Int64) (ga : Nat → Nat → Int32) (vS : Nat → Nat → Int32) (vF : Nat → Nat → Nat → Int32) (sN : Nat → Int32) (sF : Nat → Nat → Int32) (mi : Nat → Int32) (ml : Nat → Int64) (ma : Nat → Nat → Int32) (mb : Nat → Nat → Int64) (H : Heap) (locs : List Loc), va_P X.1 vwCl (cG X gi gl ga vS vF sN sF) H → va_P X.1 vwCl (cM X mi ml ma mb) H → Rel gi gl ga vS vF sN sF mi ml ma → va_S (fun q => s.heap.size ≤ q) s.heap H locs → W p l e room_1 s m #[Value.ref b] below meth c H locs ce sl Q (F0 m 1487 ls [])) : W p l e room_1 s m #[Value.ref b] below meth c H locs ce sl Q (F0 m 1054 ls []) := by
  obtain ⟨hx, hb, hr, hml, hown, hts0, hX, hbl, hlocks, hgv⟩ := id C0
  have hts := lw_hts hts0
  have hown : s.vm.findClass RL = some m.cls := hown
  have hbA : ¬ (fun q : Nat => s.heap.size ≤ q) b := Nat.not_le.mpr hbl
  have lin : ∀ k, k < 6 → vp_in (nI j + nI k) L := fun k hk => by rw [nI_add]; exact vp_in_nI (by omega) (by omega)
  obtain ⟨r, e1, e2⟩ := st_fun R.2.2.2 (xs (nI j + 1).toNatClampNeg)
  refine lv_aload_n hx hb dL_law_1054 rfl (lv_at hl 2 rfl) ?_
  refine lv_aload_n hx hb dL_law_1055 rfl (lv_at hl 3 rfl) ?_
  refine lv_iload_n hx hb dL_law_1056 rfl (lv_at hl 0 rfl) ?_
  refine lv_iconst (v := 1) hx hb dL_law_1057 (by decide) ?_
  refine lv_iadd hx hb dL_law_1058 ?_
  refine va_sld hx hb hX hbl hbA hS (lin 1 (by decide)) dL_law_1059 ?_
  refine rcV (As := [.int (xs (nI j + 1).toNatClampNeg)]) (rest := []) ⟨hx, hb, hml, hown, hts⟩ (c_X8_fun l X gi gl ga vS vF sN sF (xs (nI j + 1).toNatClampNeg) e1) ⟨w_577, w_578, w_579, w_52, w_580⟩ hd_X8_fun rfl rfl ⟨(Nat.le_of_ble_eq_true rfl), (Nat.le_of_ble_eq_true rfl)⟩ hce gPre_blind (va_recv (ci := 4) (q0 := 0) K.1 hPG rfl rfl) (gPre_law K hPG hS) rfl rfl hl.1 (Nat.le_of_ble_eq_true rfl) dL_law_1060 ?_
  refine lv_aload_n hx hb dL_law_1063 rfl (lv_at hl 1 rfl) ?_
  refine lv_aload_n hx hb dL_law_1064 rfl (lv_at hl 3 rfl) ?_
  refine lv_iload_n hx hb dL_law_1065 rfl (lv_at hl 0 rfl) ?_
  refine lv_iconst (v := 1) hx hb dL_law_1066 (by decide) ?_
  refine lv_iadd hx hb dL_law_1067 ?_
  refine va_sld hx hb hX hbl hbA hS (lin 1 (by decide)) dL_law_1068 ?_
  refine rcV (As := [.int (xs (nI j + 1).toNatClampNeg)]) (rest := [.int r]) ⟨hx, hb, hml, hown, hts⟩ (c_X9_fun l X mi ml ma mb (xs (nI j + 1).toNatClampNeg) e2) ⟨w_1164, w_1165, w_1166, w_58, w_1167⟩ hd_X9_fun rfl rfl ⟨(Nat.le_of_ble_eq_true rfl), (Nat.le_of_ble_eq_true rfl)⟩ hce mPre_blind (va_recv (ci := 5) (q0 := 0) K.1 hPM rfl rfl) (mPre_call hPM K.1 K.2.2.1) rfl rfl hl.1 (Nat.le_of_ble_eq_true rfl) dL_law_1069 ?_
  exact lv_icmp_eq (tgt := 1487) hx hb dL_law_1072 (by decide) (fun _ => kk _ _ _ _ _ _ _ _ _ _ _ _ _ hPG hPM R hS) (fun cN => absurd rfl cN)
set_option maxHeartbeats 4000000 in
set_option maxRecDepth 100000 in
/-- jester -/
theorem lc_29 (C0 : lw_At p s m meth c b L xs) (K : LCs s X) {j : Nat} (hj : j + 6 ≤ L) (hL : L ≤ 384) (hce : ce + 0 ≤ room_1.cells ∧ sl + 0 ≤ room_1.slots) (hPG : va_P X.1 vwCl (cG X gi gl ga vS vF sN sF) H) (hPM : va_P X.1 vwCl (cM X mi ml ma mb) H) (R : Rel gi gl ga vS vF sN sF mi ml ma) (hS : va_S (fun q => s.heap.size ≤ q) s.heap H locs) (hl : lv_has ls 4 [(3, .int (nI j)), (2, .ref (xB X 0)), (1, .ref (xA X 0)), (0, .ref b)]) (kk : ∀ (gi : Nat → Int32) (gl : Nat → Int64) (ga : Nat → Nat → Int32) (vS : Nat → Nat → Int32) (vF : Nat → Nat → Nat → Int32) (sN : Nat → Int32) (sF : Nat → Nat → Int32) (mi : Nat → Int32) (ml : Nat → Int64) (ma : Nat → Nat → Int32) (mb : Nat → Nat → Int64) (H : Heap) (locs : List Loc), va_P X.1 vwCl (cG X gi gl ga vS vF sN sF) H → va_P X.1 vwCl (cM X mi ml ma mb) H → Rel gi gl ga vS vF sN sF mi ml ma → va_S (fun q => s.heap.size ≤ q) s.heap H locs → W p l e room_1 s m #[Value.ref b] below meth c H locs ce sl Q (F0 m 1487 ls [])) : W p l e room_1 s m #[Value.ref b] below meth c H locs ce sl Q (F0 m 1077 ls []) := by
  obtain ⟨hx, hb, hr, hml, hown, hts0, hX, hbl, hlocks, hgv⟩ := id C0
  have hts := lw_hts hts0
  have hown : s.vm.findClass RL = some m.cls := hown
  have hbA : ¬ (fun q : Nat => s.heap.size ≤ q) b := Nat.not_le.mpr hbl
  have lin : ∀ k, k < 6 → vp_in (nI j + nI k) L := fun k hk => by rw [nI_add]; exact vp_in_nI (by omega) (by omega)
  obtain ⟨r, gi', mi', e1, e2, R'⟩ := st_jester R
  refine lv_aload_n hx hb dL_law_1077 rfl (lv_at hl 2 rfl) ?_
  refine wcV (As := []) (rest := []) ⟨hx, hb, hml, hown, hts⟩ (c_X8_jester l X gi gl ga vS vF sN sF e1) ⟨w_583, w_584, w_585, w_52, w_586⟩ hd_X8_jester rfl rfl ⟨(Nat.le_of_ble_eq_true rfl), (Nat.le_of_ble_eq_true rfl)⟩ hce gPre_blind (va_recv (ci := 4) (q0 := 0) K.1 hPG rfl rfl) (gPre_law K hPG hS) hS K.2.2.2.1 rfl rfl hl.1 (Nat.le_of_ble_eq_true rfl) dL_law_1078 (fun H locs hPG hk hS => ?_)
  have hPM := keepM K hPM hk
  refine lv_aload_n hx hb dL_law_1081 rfl (lv_at hl 1 rfl) ?_
  refine wcV (As := []) (rest := [.int r]) ⟨hx, hb, hml, hown, hts⟩ (c_X9_jester l X mi ml ma mb e2) ⟨w_1168, w_1169, w_1170, w_58, w_1171⟩ hd_X9_jester rfl rfl ⟨(Nat.le_of_ble_eq_true rfl), (Nat.le_of_ble_eq_true rfl)⟩ hce mPre_blind (va_recv (ci := 5) (q0 := 0) K.1 hPM rfl rfl) (mPre_call hPM K.1 K.2.2.1) hS K.2.2.2.2.1 rfl rfl hl.1 (Nat.le_of_ble_eq_true rfl) dL_law_1082 (fun H locs hPM hk hS => ?_)
  have hPG := keepG K hPG hk
  exact lv_icmp_eq (tgt := 1487) hx hb dL_law_1085 (by decide) (fun _ => kk _ _ _ _ _ _ _ _ _ _ _ _ _ hPG hPM R' hS) (fun cN => absurd rfl cN)
set_option maxHeartbeats 4000000 in
set_option maxRecDepth 100000 in
/-- ways -/
theorem lc_30 (C0 : lw_At p s m meth c b L xs) (K : LCs s X) {j : Nat} (hj : j + 6 ≤ L) (hL : L ≤ 384) (hce : ce + 0 ≤ room_1.cells ∧ sl + 0 ≤ room_1.slots) (hPG : va_P X.1 vwCl (cG X gi gl ga vS vF sN sF) H) (hPM : va_P X.1 vwCl (cM X mi ml ma mb) H) (R : Rel gi gl ga vS vF sN sF mi ml ma) (hS : va_S (fun q => s.heap.size ≤ q) s.heap H locs) (hl : lv_has ls 4 [(3, .int (nI j)), (2, .ref (xB X 0)), (1, .ref (xA X 0)), (0, .ref b)]) (kk : ∀ (gi : Nat → Int32) (gl : Nat → Int64) (ga : Nat → Nat → Int32) (vS : Nat → Nat → Int32) (vF : Nat → Nat → Nat → Int32) (sN : Nat → Int32) (sF : Nat → Nat → Int32) (mi : Nat → Int32) (ml : Nat → Int64) (ma : Nat → Nat → Int32) (mb : Nat → Nat → Int64) (H : Heap) (locs : List Loc), va_P X.1 vwCl (cG X gi gl ga vS vF sN sF) H → va_P X.1 vwCl (cM X mi ml ma mb) H → Rel gi gl ga vS vF sN sF mi ml ma → va_S (fun q => s.heap.size ≤ q) s.heap H locs → W p l e room_1 s m #[Value.ref b] below meth c H locs ce sl Q (F0 m 1487 ls [])) : W p l e room_1 s m #[Value.ref b] below meth c H locs ce sl Q (F0 m 1090 ls []) := by
  obtain ⟨hx, hb, hr, hml, hown, hts0, hX, hbl, hlocks, hgv⟩ := id C0
  have hts := lw_hts hts0
  have hown : s.vm.findClass RL = some m.cls := hown
  have hbA : ¬ (fun q : Nat => s.heap.size ≤ q) b := Nat.not_le.mpr hbl
  have lin : ∀ k, k < 6 → vp_in (nI j + nI k) L := fun k hk => by rw [nI_add]; exact vp_in_nI (by omega) (by omega)
  obtain ⟨r, e1, e2⟩ := st_ways R.2.2.2
  refine lv_aload_n hx hb dL_law_1090 rfl (lv_at hl 2 rfl) ?_
  refine rcV (As := []) (rest := []) ⟨hx, hb, hml, hown, hts⟩ (c_X8_ways l X gi gl ga vS vF sN sF e1) ⟨w_587, w_588, w_589, w_52, w_590⟩ hd_X8_ways rfl rfl ⟨(Nat.le_of_ble_eq_true rfl), (Nat.le_of_ble_eq_true rfl)⟩ hce gPre_blind (va_recv (ci := 4) (q0 := 0) K.1 hPG rfl rfl) (gPre_law K hPG hS) rfl rfl hl.1 (Nat.le_of_ble_eq_true rfl) dL_law_1091 ?_
  refine lv_aload_n hx hb dL_law_1094 rfl (lv_at hl 1 rfl) ?_
  refine rcV (As := []) (rest := [.int r]) ⟨hx, hb, hml, hown, hts⟩ (c_X9_ways l X mi ml ma mb e2) ⟨w_1172, w_1173, w_1174, w_58, w_1175⟩ hd_X9_ways rfl rfl ⟨(Nat.le_of_ble_eq_true rfl), (Nat.le_of_ble_eq_true rfl)⟩ hce mPre_blind (va_recv (ci := 5) (q0 := 0) K.1 hPM rfl rfl) (mPre_call hPM K.1 K.2.2.1) rfl rfl hl.1 (Nat.le_of_ble_eq_true rfl) dL_law_1095 ?_
  exact lv_icmp_eq (tgt := 1487) hx hb dL_law_1098 (by decide) (fun _ => kk _ _ _ _ _ _ _ _ _ _ _ _ _ hPG hPM R hS) (fun cN => absurd rfl cN)
set_option maxHeartbeats 4000000 in
set_option maxRecDepth 100000 in
/-- feed -/
theorem lc_31 (C0 : lw_At p s m meth c b L xs) (K : LCs s X) {j : Nat} (hj : j + 6 ≤ L) (hL : L ≤ 384) (hce : ce + 0 ≤ room_1.cells ∧ sl + 0 ≤ room_1.slots) (hPG : va_P X.1 vwCl (cG X gi gl ga vS vF sN sF) H) (hPM : va_P X.1 vwCl (cM X mi ml ma mb) H) (R : Rel gi gl ga vS vF sN sF mi ml ma) (hS : va_S (fun q => s.heap.size ≤ q) s.heap H locs) (hl : lv_has ls 4 [(3, .int (nI j)), (2, .ref (xB X 0)), (1, .ref (xA X 0)), (0, .ref b)]) (kk : ∀ (gi : Nat → Int32) (gl : Nat → Int64) (ga : Nat → Nat → Int32) (vS : Nat → Nat → Int32) (vF : Nat → Nat → Nat → Int32) (sN : Nat → Int32) (sF : Nat → Nat → Int32) (mi : Nat → Int32) (ml : Nat → Int64) (ma : Nat → Nat → Int32) (mb : Nat → Nat → Int64) (H : Heap) (locs : List Loc), va_P X.1 vwCl (cG X gi gl ga vS vF sN sF) H → va_P X.1 vwCl (cM X mi ml ma mb) H → Rel gi gl ga vS vF sN sF mi ml ma → va_S (fun q => s.heap.size ≤ q) s.heap H locs → W p l e room_1 s m #[Value.ref b] below meth c H locs ce sl Q (F0 m 1487 ls [])) : W p l e room_1 s m #[Value.ref b] below meth c H locs ce sl Q (F0 m 1103 ls []) := by
  obtain ⟨hx, hb, hr, hml, hown, hts0, hX, hbl, hlocks, hgv⟩ := id C0
  have hts := lw_hts hts0
  have hown : s.vm.findClass RL = some m.cls := hown
  have hbA : ¬ (fun q : Nat => s.heap.size ≤ q) b := Nat.not_le.mpr hbl
  have lin : ∀ k, k < 6 → vp_in (nI j + nI k) L := fun k hk => by rw [nI_add]; exact vp_in_nI (by omega) (by omega)
  obtain ⟨r, e1, e2⟩ := st_feed R.2.2.2 (xs (nI j + 1).toNatClampNeg) (xs (nI j + 2).toNatClampNeg)
  refine lv_aload_n hx hb dL_law_1103 rfl (lv_at hl 2 rfl) ?_
  refine lv_aload_n hx hb dL_law_1104 rfl (lv_at hl 3 rfl) ?_
  refine lv_iload_n hx hb dL_law_1105 rfl (lv_at hl 0 rfl) ?_
  refine lv_iconst (v := 1) hx hb dL_law_1106 (by decide) ?_
  refine lv_iadd hx hb dL_law_1107 ?_
  refine va_sld hx hb hX hbl hbA hS (lin 1 (by decide)) dL_law_1108 ?_
  refine lv_aload_n hx hb dL_law_1109 rfl (lv_at hl 3 rfl) ?_
  refine lv_iload_n hx hb dL_law_1110 rfl (lv_at hl 0 rfl) ?_
  refine lv_iconst (v := 2) hx hb dL_law_1111 (by decide) ?_
  refine lv_iadd hx hb dL_law_1112 ?_
  refine va_sld hx hb hX hbl hbA hS (lin 2 (by decide)) dL_law_1113 ?_
  refine rcV (As := [.int (xs (nI j + 1).toNatClampNeg), .int (xs (nI j + 2).toNatClampNeg)]) (rest := []) ⟨hx, hb, hml, hown, hts⟩ (c_X8_feed l X gi gl ga vS vF sN sF (xs (nI j + 1).toNatClampNeg) (xs (nI j + 2).toNatClampNeg) e1) ⟨w_596, w_597, w_598, w_52, w_599⟩ hd_X8_feed rfl rfl ⟨(Nat.le_of_ble_eq_true rfl), (Nat.le_of_ble_eq_true rfl)⟩ hce gPre_blind (va_recv (ci := 4) (q0 := 0) K.1 hPG rfl rfl) (gPre_law K hPG hS) rfl rfl hl.1 (Nat.le_of_ble_eq_true rfl) dL_law_1114 ?_
  refine lv_aload_n hx hb dL_law_1117 rfl (lv_at hl 1 rfl) ?_
  refine lv_aload_n hx hb dL_law_1118 rfl (lv_at hl 3 rfl) ?_
  refine lv_iload_n hx hb dL_law_1119 rfl (lv_at hl 0 rfl) ?_
  refine lv_iconst (v := 1) hx hb dL_law_1120 (by decide) ?_
  refine lv_iadd hx hb dL_law_1121 ?_
  refine va_sld hx hb hX hbl hbA hS (lin 1 (by decide)) dL_law_1122 ?_
  refine lv_aload_n hx hb dL_law_1123 rfl (lv_at hl 3 rfl) ?_
  refine lv_iload_n hx hb dL_law_1124 rfl (lv_at hl 0 rfl) ?_
  refine lv_iconst (v := 2) hx hb dL_law_1125 (by decide) ?_
  refine lv_iadd hx hb dL_law_1126 ?_
  refine va_sld hx hb hX hbl hbA hS (lin 2 (by decide)) dL_law_1127 ?_
  refine rcV (As := [.int (xs (nI j + 1).toNatClampNeg), .int (xs (nI j + 2).toNatClampNeg)]) (rest := [.int r]) ⟨hx, hb, hml, hown, hts⟩ (c_X9_feed l X mi ml ma mb (xs (nI j + 1).toNatClampNeg) (xs (nI j + 2).toNatClampNeg) e2) ⟨w_1180, w_1181, w_1182, w_58, w_1183⟩ hd_X9_feed rfl rfl ⟨(Nat.le_of_ble_eq_true rfl), (Nat.le_of_ble_eq_true rfl)⟩ hce mPre_blind (va_recv (ci := 5) (q0 := 0) K.1 hPM rfl rfl) (mPre_call hPM K.1 K.2.2.1) rfl rfl hl.1 (Nat.le_of_ble_eq_true rfl) dL_law_1128 ?_
  exact lv_icmp_eq (tgt := 1487) hx hb dL_law_1131 (by decide) (fun _ => kk _ _ _ _ _ _ _ _ _ _ _ _ _ hPG hPM R hS) (fun cN => absurd rfl cN)
set_option maxHeartbeats 4000000 in
set_option maxRecDepth 100000 in
/-- spoons -/
theorem lc_32 (C0 : lw_At p s m meth c b L xs) (K : LCs s X) {j : Nat} (hj : j + 6 ≤ L) (hL : L ≤ 384) (hce : ce + 0 ≤ room_1.cells ∧ sl + 0 ≤ room_1.slots) (hPG : va_P X.1 vwCl (cG X gi gl ga vS vF sN sF) H) (hPM : va_P X.1 vwCl (cM X mi ml ma mb) H) (R : Rel gi gl ga vS vF sN sF mi ml ma) (hS : va_S (fun q => s.heap.size ≤ q) s.heap H locs) (hl : lv_has ls 4 [(3, .int (nI j)), (2, .ref (xB X 0)), (1, .ref (xA X 0)), (0, .ref b)]) (kk : ∀ (gi : Nat → Int32) (gl : Nat → Int64) (ga : Nat → Nat → Int32) (vS : Nat → Nat → Int32) (vF : Nat → Nat → Nat → Int32) (sN : Nat → Int32) (sF : Nat → Nat → Int32) (mi : Nat → Int32) (ml : Nat → Int64) (ma : Nat → Nat → Int32) (mb : Nat → Nat → Int64) (H : Heap) (locs : List Loc), va_P X.1 vwCl (cG X gi gl ga vS vF sN sF) H → va_P X.1 vwCl (cM X mi ml ma mb) H → Rel gi gl ga vS vF sN sF mi ml ma → va_S (fun q => s.heap.size ≤ q) s.heap H locs → W p l e room_1 s m #[Value.ref b] below meth c H locs ce sl Q (F0 m 1487 ls [])) : W p l e room_1 s m #[Value.ref b] below meth c H locs ce sl Q (F0 m 1136 ls []) := by
  obtain ⟨hx, hb, hr, hml, hown, hts0, hX, hbl, hlocks, hgv⟩ := id C0
  have hts := lw_hts hts0
  have hown : s.vm.findClass RL = some m.cls := hown
  have hbA : ¬ (fun q : Nat => s.heap.size ≤ q) b := Nat.not_le.mpr hbl
  have lin : ∀ k, k < 6 → vp_in (nI j + nI k) L := fun k hk => by rw [nI_add]; exact vp_in_nI (by omega) (by omega)
  obtain ⟨r, gi', ga', mi', e1, e2, R'⟩ := st_spoons R
  refine lv_aload_n hx hb dL_law_1136 rfl (lv_at hl 2 rfl) ?_
  refine wcV (As := []) (rest := []) ⟨hx, hb, hml, hown, hts⟩ (c_X8_spoons l X gi gl ga vS vF sN sF e1) ⟨w_601, w_602, w_603, w_52, w_604⟩ hd_X8_spoons rfl rfl ⟨(Nat.le_of_ble_eq_true rfl), (Nat.le_of_ble_eq_true rfl)⟩ hce gPre_blind (va_recv (ci := 4) (q0 := 0) K.1 hPG rfl rfl) (gPre_law K hPG hS) hS K.2.2.2.1 rfl rfl hl.1 (Nat.le_of_ble_eq_true rfl) dL_law_1137 (fun H locs hPG hk hS => ?_)
  have hPM := keepM K hPM hk
  refine lv_aload_n hx hb dL_law_1140 rfl (lv_at hl 1 rfl) ?_
  refine wcV (As := []) (rest := [.int r]) ⟨hx, hb, hml, hown, hts⟩ (c_X9_spoons l X mi ml ma mb e2) ⟨w_1184, w_1185, w_1186, w_58, w_1187⟩ hd_X9_spoons rfl rfl ⟨(Nat.le_of_ble_eq_true rfl), (Nat.le_of_ble_eq_true rfl)⟩ hce mPre_blind (va_recv (ci := 5) (q0 := 0) K.1 hPM rfl rfl) (mPre_call hPM K.1 K.2.2.1) hS K.2.2.2.2.1 rfl rfl hl.1 (Nat.le_of_ble_eq_true rfl) dL_law_1141 (fun H locs hPM hk hS => ?_)
  have hPG := keepG K hPG hk
  exact lv_icmp_eq (tgt := 1487) hx hb dL_law_1144 (by decide) (fun _ => kk _ _ _ _ _ _ _ _ _ _ _ _ _ hPG hPM R' hS) (fun cN => absurd rfl cN)
set_option maxHeartbeats 4000000 in
set_option maxRecDepth 100000 in
/-- orders -/
theorem lc_33 (C0 : lw_At p s m meth c b L xs) (K : LCs s X) {j : Nat} (hj : j + 6 ≤ L) (hL : L ≤ 384) (hce : ce + 0 ≤ room_1.cells ∧ sl + 0 ≤ room_1.slots) (hPG : va_P X.1 vwCl (cG X gi gl ga vS vF sN sF) H) (hPM : va_P X.1 vwCl (cM X mi ml ma mb) H) (R : Rel gi gl ga vS vF sN sF mi ml ma) (hS : va_S (fun q => s.heap.size ≤ q) s.heap H locs) (hl : lv_has ls 4 [(3, .int (nI j)), (2, .ref (xB X 0)), (1, .ref (xA X 0)), (0, .ref b)]) (kk : ∀ (gi : Nat → Int32) (gl : Nat → Int64) (ga : Nat → Nat → Int32) (vS : Nat → Nat → Int32) (vF : Nat → Nat → Nat → Int32) (sN : Nat → Int32) (sF : Nat → Nat → Int32) (mi : Nat → Int32) (ml : Nat → Int64) (ma : Nat → Nat → Int32) (mb : Nat → Nat → Int64) (H : Heap) (locs : List Loc), va_P X.1 vwCl (cG X gi gl ga vS vF sN sF) H → va_P X.1 vwCl (cM X mi ml ma mb) H → Rel gi gl ga vS vF sN sF mi ml ma → va_S (fun q => s.heap.size ≤ q) s.heap H locs → W p l e room_1 s m #[Value.ref b] below meth c H locs ce sl Q (F0 m 1487 ls [])) : W p l e room_1 s m #[Value.ref b] below meth c H locs ce sl Q (F0 m 1149 ls []) := by
  obtain ⟨hx, hb, hr, hml, hown, hts0, hX, hbl, hlocks, hgv⟩ := id C0
  have hts := lw_hts hts0
  have hown : s.vm.findClass RL = some m.cls := hown
  have hbA : ¬ (fun q : Nat => s.heap.size ≤ q) b := Nat.not_le.mpr hbl
  have lin : ∀ k, k < 6 → vp_in (nI j + nI k) L := fun k hk => by rw [nI_add]; exact vp_in_nI (by omega) (by omega)
  obtain ⟨r, gi', gl', ga', ml', mb', e1, e2, R'⟩ := st_orders R mb
  refine lv_aload_n hx hb dL_law_1149 rfl (lv_at hl 2 rfl) ?_
  refine wcV (As := []) (rest := []) ⟨hx, hb, hml, hown, hts⟩ (c_X8_orders l X gi gl ga vS vF sN sF e1) ⟨w_615, w_616, w_617, w_52, w_618⟩ hd_X8_orders rfl rfl ⟨(Nat.le_of_ble_eq_true rfl), (Nat.le_of_ble_eq_true rfl)⟩ hce gPre_blind (va_recv (ci := 4) (q0 := 0) K.1 hPG rfl rfl) (gPre_law K hPG hS) hS K.2.2.2.1 rfl rfl hl.1 (Nat.le_of_ble_eq_true rfl) dL_law_1150 (fun H locs hPG hk hS => ?_)
  have hPM := keepM K hPM hk
  refine lv_aload_n hx hb dL_law_1153 rfl (lv_at hl 1 rfl) ?_
  refine wcV (As := []) (rest := [.int r]) ⟨hx, hb, hml, hown, hts⟩ (c_X9_orders l X mi ml ma mb e2) ⟨w_1188, w_1189, w_1190, w_58, w_1191⟩ hd_X9_orders rfl rfl ⟨(Nat.le_of_ble_eq_true rfl), (Nat.le_of_ble_eq_true rfl)⟩ hce mPre_blind (va_recv (ci := 5) (q0 := 0) K.1 hPM rfl rfl) (mPre_call hPM K.1 K.2.2.1) hS K.2.2.2.2.1 rfl rfl hl.1 (Nat.le_of_ble_eq_true rfl) dL_law_1154 (fun H locs hPM hk hS => ?_)
  have hPG := keepG K hPG hk
  exact lv_icmp_eq (tgt := 1487) hx hb dL_law_1157 (by decide) (fun _ => kk _ _ _ _ _ _ _ _ _ _ _ _ _ hPG hPM R' hS) (fun cN => absurd rfl cN)
set_option maxHeartbeats 4000000 in
set_option maxRecDepth 100000 in
/-- came -/
theorem lc_34 (C0 : lw_At p s m meth c b L xs) (K : LCs s X) {j : Nat} (hj : j + 6 ≤ L) (hL : L ≤ 384) (hce : ce + 0 ≤ room_1.cells ∧ sl + 0 ≤ room_1.slots) (hPG : va_P X.1 vwCl (cG X gi gl ga vS vF sN sF) H) (hPM : va_P X.1 vwCl (cM X mi ml ma mb) H) (R : Rel gi gl ga vS vF sN sF mi ml ma) (hS : va_S (fun q => s.heap.size ≤ q) s.heap H locs) (hl : lv_has ls 4 [(3, .int (nI j)), (2, .ref (xB X 0)), (1, .ref (xA X 0)), (0, .ref b)]) (kk : ∀ (gi : Nat → Int32) (gl : Nat → Int64) (ga : Nat → Nat → Int32) (vS : Nat → Nat → Int32) (vF : Nat → Nat → Nat → Int32) (sN : Nat → Int32) (sF : Nat → Nat → Int32) (mi : Nat → Int32) (ml : Nat → Int64) (ma : Nat → Nat → Int32) (mb : Nat → Nat → Int64) (H : Heap) (locs : List Loc), va_P X.1 vwCl (cG X gi gl ga vS vF sN sF) H → va_P X.1 vwCl (cM X mi ml ma mb) H → Rel gi gl ga vS vF sN sF mi ml ma → va_S (fun q => s.heap.size ≤ q) s.heap H locs → W p l e room_1 s m #[Value.ref b] below meth c H locs ce sl Q (F0 m 1487 ls [])) : W p l e room_1 s m #[Value.ref b] below meth c H locs ce sl Q (F0 m 1162 ls []) := by
  obtain ⟨hx, hb, hr, hml, hown, hts0, hX, hbl, hlocks, hgv⟩ := id C0
  have hts := lw_hts hts0
  have hown : s.vm.findClass RL = some m.cls := hown
  have hbA : ¬ (fun q : Nat => s.heap.size ≤ q) b := Nat.not_le.mpr hbl
  have lin : ∀ k, k < 6 → vp_in (nI j + nI k) L := fun k hk => by rw [nI_add]; exact vp_in_nI (by omega) (by omega)
  obtain ⟨r, gi', gl', ga', mi', ml', ma', mb', e1, e2, R'⟩ := st_came R mb (xs (nI j + 1).toNatClampNeg) (xs (nI j + 2).toNatClampNeg)
  refine lv_aload_n hx hb dL_law_1162 rfl (lv_at hl 2 rfl) ?_
  refine lv_aload_n hx hb dL_law_1163 rfl (lv_at hl 3 rfl) ?_
  refine lv_iload_n hx hb dL_law_1164 rfl (lv_at hl 0 rfl) ?_
  refine lv_iconst (v := 1) hx hb dL_law_1165 (by decide) ?_
  refine lv_iadd hx hb dL_law_1166 ?_
  refine va_sld hx hb hX hbl hbA hS (lin 1 (by decide)) dL_law_1167 ?_
  refine lv_aload_n hx hb dL_law_1168 rfl (lv_at hl 3 rfl) ?_
  refine lv_iload_n hx hb dL_law_1169 rfl (lv_at hl 0 rfl) ?_
  refine lv_iconst (v := 2) hx hb dL_law_1170 (by decide) ?_
  refine lv_iadd hx hb dL_law_1171 ?_
  refine va_sld hx hb hX hbl hbA hS (lin 2 (by decide)) dL_law_1172 ?_
  refine wcV (As := [.int (xs (nI j + 1).toNatClampNeg), .int (xs (nI j + 2).toNatClampNeg)]) (rest := []) ⟨hx, hb, hml, hown, hts⟩ (c_X8_came l X gi gl ga vS vF sN sF (xs (nI j + 1).toNatClampNeg) (xs (nI j + 2).toNatClampNeg) e1) ⟨w_644, w_645, w_646, w_52, w_647⟩ hd_X8_came rfl rfl ⟨(Nat.le_of_ble_eq_true rfl), (Nat.le_of_ble_eq_true rfl)⟩ hce gPre_blind (va_recv (ci := 4) (q0 := 0) K.1 hPG rfl rfl) (gPre_law K hPG hS) hS K.2.2.2.1 rfl rfl hl.1 (Nat.le_of_ble_eq_true rfl) dL_law_1173 (fun H locs hPG hk hS => ?_)
  have hPM := keepM K hPM hk
  refine lv_aload_n hx hb dL_law_1176 rfl (lv_at hl 1 rfl) ?_
  refine lv_aload_n hx hb dL_law_1177 rfl (lv_at hl 3 rfl) ?_
  refine lv_iload_n hx hb dL_law_1178 rfl (lv_at hl 0 rfl) ?_
  refine lv_iconst (v := 1) hx hb dL_law_1179 (by decide) ?_
  refine lv_iadd hx hb dL_law_1180 ?_
  refine va_sld hx hb hX hbl hbA hS (lin 1 (by decide)) dL_law_1181 ?_
  refine lv_aload_n hx hb dL_law_1182 rfl (lv_at hl 3 rfl) ?_
  refine lv_iload_n hx hb dL_law_1183 rfl (lv_at hl 0 rfl) ?_
  refine lv_iconst (v := 2) hx hb dL_law_1184 (by decide) ?_
  refine lv_iadd hx hb dL_law_1185 ?_
  refine va_sld hx hb hX hbl hbA hS (lin 2 (by decide)) dL_law_1186 ?_
  refine wcV (As := [.int (xs (nI j + 1).toNatClampNeg), .int (xs (nI j + 2).toNatClampNeg)]) (rest := [.int r]) ⟨hx, hb, hml, hown, hts⟩ (c_X9_came l X mi ml ma mb (xs (nI j + 1).toNatClampNeg) (xs (nI j + 2).toNatClampNeg) e2) ⟨w_1200, w_1201, w_1202, w_58, w_1203⟩ hd_X9_came rfl rfl ⟨(Nat.le_of_ble_eq_true rfl), (Nat.le_of_ble_eq_true rfl)⟩ hce mPre_blind (va_recv (ci := 5) (q0 := 0) K.1 hPM rfl rfl) (mPre_call hPM K.1 K.2.2.1) hS K.2.2.2.2.1 rfl rfl hl.1 (Nat.le_of_ble_eq_true rfl) dL_law_1187 (fun H locs hPM hk hS => ?_)
  have hPG := keepG K hPG hk
  exact lv_icmp_eq (tgt := 1487) hx hb dL_law_1190 (by decide) (fun _ => kk _ _ _ _ _ _ _ _ _ _ _ _ _ hPG hPM R' hS) (fun cN => absurd rfl cN)
set_option maxHeartbeats 4000000 in
set_option maxRecDepth 100000 in
/-- ahead -/
theorem lc_35 (C0 : lw_At p s m meth c b L xs) (K : LCs s X) {j : Nat} (hj : j + 6 ≤ L) (hL : L ≤ 384) (hce : ce + 0 ≤ room_1.cells ∧ sl + 0 ≤ room_1.slots) (hPG : va_P X.1 vwCl (cG X gi gl ga vS vF sN sF) H) (hPM : va_P X.1 vwCl (cM X mi ml ma mb) H) (R : Rel gi gl ga vS vF sN sF mi ml ma) (hS : va_S (fun q => s.heap.size ≤ q) s.heap H locs) (hl : lv_has ls 4 [(3, .int (nI j)), (2, .ref (xB X 0)), (1, .ref (xA X 0)), (0, .ref b)]) (kk : ∀ (gi : Nat → Int32) (gl : Nat → Int64) (ga : Nat → Nat → Int32) (vS : Nat → Nat → Int32) (vF : Nat → Nat → Nat → Int32) (sN : Nat → Int32) (sF : Nat → Nat → Int32) (mi : Nat → Int32) (ml : Nat → Int64) (ma : Nat → Nat → Int32) (mb : Nat → Nat → Int64) (H : Heap) (locs : List Loc), va_P X.1 vwCl (cG X gi gl ga vS vF sN sF) H → va_P X.1 vwCl (cM X mi ml ma mb) H → Rel gi gl ga vS vF sN sF mi ml ma → va_S (fun q => s.heap.size ≤ q) s.heap H locs → W p l e room_1 s m #[Value.ref b] below meth c H locs ce sl Q (F0 m 1487 ls [])) : W p l e room_1 s m #[Value.ref b] below meth c H locs ce sl Q (F0 m 1195 ls []) := by
  obtain ⟨hx, hb, hr, hml, hown, hts0, hX, hbl, hlocks, hgv⟩ := id C0
  have hts := lw_hts hts0
  have hown : s.vm.findClass RL = some m.cls := hown
  have hbA : ¬ (fun q : Nat => s.heap.size ≤ q) b := Nat.not_le.mpr hbl
  have lin : ∀ k, k < 6 → vp_in (nI j + nI k) L := fun k hk => by rw [nI_add]; exact vp_in_nI (by omega) (by omega)
  obtain ⟨r, gi', gl', ga', ml', mb', e1, e2, R'⟩ := st_ahead R mb (xs (nI j + 1).toNatClampNeg) (xs (nI j + 2).toNatClampNeg)
  refine lv_aload_n hx hb dL_law_1195 rfl (lv_at hl 2 rfl) ?_
  refine lv_aload_n hx hb dL_law_1196 rfl (lv_at hl 3 rfl) ?_
  refine lv_iload_n hx hb dL_law_1197 rfl (lv_at hl 0 rfl) ?_
  refine lv_iconst (v := 1) hx hb dL_law_1198 (by decide) ?_
  refine lv_iadd hx hb dL_law_1199 ?_
  refine va_sld hx hb hX hbl hbA hS (lin 1 (by decide)) dL_law_1200 ?_
  refine lv_aload_n hx hb dL_law_1201 rfl (lv_at hl 3 rfl) ?_
  refine lv_iload_n hx hb dL_law_1202 rfl (lv_at hl 0 rfl) ?_
  refine lv_iconst (v := 2) hx hb dL_law_1203 (by decide) ?_
  refine lv_iadd hx hb dL_law_1204 ?_
  refine va_sld hx hb hX hbl hbA hS (lin 2 (by decide)) dL_law_1205 ?_
  refine wcV (As := [.int (xs (nI j + 1).toNatClampNeg), .int (xs (nI j + 2).toNatClampNeg)]) (rest := []) ⟨hx, hb, hml, hown, hts⟩ (c_X8_ahead l X gi gl ga vS vF sN sF (xs (nI j + 1).toNatClampNeg) (xs (nI j + 2).toNatClampNeg) e1) ⟨w_657, w_658, w_659, w_52, w_660⟩ hd_X8_ahead rfl rfl ⟨(Nat.le_of_ble_eq_true rfl), (Nat.le_of_ble_eq_true rfl)⟩ hce gPre_blind (va_recv (ci := 4) (q0 := 0) K.1 hPG rfl rfl) (gPre_law K hPG hS) hS K.2.2.2.1 rfl rfl hl.1 (Nat.le_of_ble_eq_true rfl) dL_law_1206 (fun H locs hPG hk hS => ?_)
  have hPM := keepM K hPM hk
  refine lv_aload_n hx hb dL_law_1209 rfl (lv_at hl 1 rfl) ?_
  refine lv_aload_n hx hb dL_law_1210 rfl (lv_at hl 3 rfl) ?_
  refine lv_iload_n hx hb dL_law_1211 rfl (lv_at hl 0 rfl) ?_
  refine lv_iconst (v := 1) hx hb dL_law_1212 (by decide) ?_
  refine lv_iadd hx hb dL_law_1213 ?_
  refine va_sld hx hb hX hbl hbA hS (lin 1 (by decide)) dL_law_1214 ?_
  refine lv_aload_n hx hb dL_law_1215 rfl (lv_at hl 3 rfl) ?_
  refine lv_iload_n hx hb dL_law_1216 rfl (lv_at hl 0 rfl) ?_
  refine lv_iconst (v := 2) hx hb dL_law_1217 (by decide) ?_
  refine lv_iadd hx hb dL_law_1218 ?_
  refine va_sld hx hb hX hbl hbA hS (lin 2 (by decide)) dL_law_1219 ?_
  refine wcV (As := [.int (xs (nI j + 1).toNatClampNeg), .int (xs (nI j + 2).toNatClampNeg)]) (rest := [.int r]) ⟨hx, hb, hml, hown, hts⟩ (c_X9_ahead l X mi ml ma mb (xs (nI j + 1).toNatClampNeg) (xs (nI j + 2).toNatClampNeg) e2) ⟨w_1212, w_1213, w_1214, w_58, w_1215⟩ hd_X9_ahead rfl rfl ⟨(Nat.le_of_ble_eq_true rfl), (Nat.le_of_ble_eq_true rfl)⟩ hce mPre_blind (va_recv (ci := 5) (q0 := 0) K.1 hPM rfl rfl) (mPre_call hPM K.1 K.2.2.1) hS K.2.2.2.2.1 rfl rfl hl.1 (Nat.le_of_ble_eq_true rfl) dL_law_1220 (fun H locs hPM hk hS => ?_)
  have hPG := keepG K hPG hk
  exact lv_icmp_eq (tgt := 1487) hx hb dL_law_1223 (by decide) (fun _ => kk _ _ _ _ _ _ _ _ _ _ _ _ _ hPG hPM R' hS) (fun cN => absurd rfl cN)
end
