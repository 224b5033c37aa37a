section
variable {p : Program} {l : Launch} {e : Env} {s : State} {m : MethodId} {below : List Frame} {meth : Method} {c : Code} {b L : Nat} {xs : Nat → Int32} {H : Heap} {locs : List Loc} {ce sl : Nat} {Q : State → Prop} {ls : Array Slot} {X : gX}
variable {gi : Nat → Int32} {gl : Nat → Int64} {ga : Nat → Nat → Int32} {vS : Nat → Nat → Int32} {vF : Nat → Nat → Nat → Int32} {sN : Nat → Int32} {sF : Nat → Nat → Int32} {mi : Nat → Int32} {ml : Nat → Int64} {ma : Nat → Nat → Int32} {mb : Nat → Nat → Int64}
set_option maxHeartbeats 4000000 in
set_option maxRecDepth 100000 in
/-- taste -/
theorem lc_12 (C0 : lw_At p s m meth c b L xs) (K : LCs s X) {j : Nat} (hj : j + 6 ≤ L) (hL : L ≤ 384) (hce : ce + 0 ≤ room_1.cells ∧ sl + 0 ≤ room_1.slots) (hPG : va_P X.1 vwCl (cG X gi gl ga vS vF sN sF) H) (hPM : va_P X.1 vwCl (cM X mi ml ma mb) H) (R : Rel gi gl ga vS vF sN sF mi ml ma) (hS : va_S (fun q => s.heap.size ≤ q) s.heap H locs) (hl : lv_has ls 4 [(3, .int (nI j)), (2, .ref (xB X 0)), (1, .ref (xA X 0)), (0, .ref b)]) (kk : ∀ (gi : Nat → Int32) (gl : Nat → Int64) (ga : Nat → Nat → Int32) (vS : Nat → Nat → Int32) (vF : Nat → Nat → Nat → Int32) (sN : Nat → Int32) (sF : Nat → Nat → Int32) (mi : Nat → Int32) (ml : Nat → Int64) (ma : Nat → Nat → Int32) (mb : Nat → Nat → Int64) (H : Heap) (locs : List Loc), va_P X.1 vwCl (cG X gi gl ga vS vF sN sF) H → va_P X.1 vwCl (cM X mi ml ma mb) H → Rel gi gl ga vS vF sN sF mi ml ma → va_S (fun q => s.heap.size ≤ q) s.heap H locs → W p l e room_1 s m #[Value.ref b] below meth c H locs ce sl Q (F0 m 1487 ls [])) : W p l e room_1 s m #[Value.ref b] below meth c H locs ce sl Q (F0 m 646 ls []) := by
  obtain ⟨hx, hb, hr, hml, hown, hts0, hX, hbl, hlocks, hgv⟩ := id C0
  have hts := lw_hts hts0
  have hown : s.vm.findClass RL = some m.cls := hown
  have hbA : ¬ (fun q : Nat => s.heap.size ≤ q) b := Nat.not_le.mpr hbl
  have lin : ∀ k, k < 6 → vp_in (nI j + nI k) L := fun k hk => by rw [nI_add]; exact vp_in_nI (by omega) (by omega)
  obtain ⟨r, vF', ma', e1, e2, R'⟩ := st_taste R (xs (nI j + 1).toNatClampNeg) (xs (nI j + 2).toNatClampNeg)
  refine lv_aload_n hx hb dL_law_646 rfl (lv_at hl 2 rfl) ?_
  refine lv_aload_n hx hb dL_law_647 rfl (lv_at hl 3 rfl) ?_
  refine lv_iload_n hx hb dL_law_648 rfl (lv_at hl 0 rfl) ?_
  refine lv_iconst (v := 1) hx hb dL_law_649 (by decide) ?_
  refine lv_iadd hx hb dL_law_650 ?_
  refine va_sld hx hb hX hbl hbA hS (lin 1 (by decide)) dL_law_651 ?_
  refine lv_aload_n hx hb dL_law_652 rfl (lv_at hl 3 rfl) ?_
  refine lv_iload_n hx hb dL_law_653 rfl (lv_at hl 0 rfl) ?_
  refine lv_iconst (v := 2) hx hb dL_law_654 (by decide) ?_
  refine lv_iadd hx hb dL_law_655 ?_
  refine va_sld hx hb hX hbl hbA hS (lin 2 (by decide)) dL_law_656 ?_
  refine wcV (As := [.int (xs (nI j + 1).toNatClampNeg), .int (xs (nI j + 2).toNatClampNeg)]) (rest := []) ⟨hx, hb, hml, hown, hts⟩ (c_X8_taste l X gi gl ga vS vF sN sF (xs (nI j + 1).toNatClampNeg) (xs (nI j + 2).toNatClampNeg) e1) ⟨w_417, w_418, w_419, w_52, w_420⟩ hd_X8_taste rfl rfl ⟨(Nat.le_of_ble_eq_true rfl), (Nat.le_of_ble_eq_true rfl)⟩ hce gPre_blind (va_recv (ci := 4) (q0 := 0) K.1 hPG rfl rfl) (gPre_law K hPG hS) hS K.2.2.2.1 rfl rfl hl.1 (Nat.le_of_ble_eq_true rfl) dL_law_657 (fun H locs hPG hk hS => ?_)
  have hPM := keepM K hPM hk
  refine lv_aload_n hx hb dL_law_660 rfl (lv_at hl 1 rfl) ?_
  refine lv_aload_n hx hb dL_law_661 rfl (lv_at hl 3 rfl) ?_
  refine lv_iload_n hx hb dL_law_662 rfl (lv_at hl 0 rfl) ?_
  refine lv_iconst (v := 1) hx hb dL_law_663 (by decide) ?_
  refine lv_iadd hx hb dL_law_664 ?_
  refine va_sld hx hb hX hbl hbA hS (lin 1 (by decide)) dL_law_665 ?_
  refine lv_aload_n hx hb dL_law_666 rfl (lv_at hl 3 rfl) ?_
  refine lv_iload_n hx hb dL_law_667 rfl (lv_at hl 0 rfl) ?_
  refine lv_iconst (v := 2) hx hb dL_law_668 (by decide) ?_
  refine lv_iadd hx hb dL_law_669 ?_
  refine va_sld hx hb hX hbl hbA hS (lin 2 (by decide)) dL_law_670 ?_
  refine wcV (As := [.int (xs (nI j + 1).toNatClampNeg), .int (xs (nI j + 2).toNatClampNeg)]) (rest := [.int r]) ⟨hx, hb, hml, hown, hts⟩ (c_X9_taste l X mi ml ma mb (xs (nI j + 1).toNatClampNeg) (xs (nI j + 2).toNatClampNeg) e2) ⟨w_1046, w_1047, w_1048, w_58, w_1049⟩ hd_X9_taste rfl rfl ⟨(Nat.le_of_ble_eq_true rfl), (Nat.le_of_ble_eq_true rfl)⟩ hce mPre_blind (va_recv (ci := 5) (q0 := 0) K.1 hPM rfl rfl) (mPre_call hPM K.1 K.2.2.1) hS K.2.2.2.2.1 rfl rfl hl.1 (Nat.le_of_ble_eq_true rfl) dL_law_671 (fun H locs hPM hk hS => ?_)
  have hPG := keepG K hPG hk
  exact lv_icmp_eq (tgt := 1487) hx hb dL_law_674 (by decide) (fun _ => kk _ _ _ _ _ _ _ _ _ _ _ _ _ hPG hPM R' hS) (fun cN => absurd rfl cN)
set_option maxHeartbeats 4000000 in
set_option maxRecDepth 100000 in
/-- touch -/
theorem lc_13 (C0 : lw_At p s m meth c b L xs) (K : LCs s X) {j : Nat} (hj : j + 6 ≤ L) (hL : L ≤ 384) (hce : ce + 0 ≤ room_1.cells ∧ sl + 0 ≤ room_1.slots) (hPG : va_P X.1 vwCl (cG X gi gl ga vS vF sN sF) H) (hPM : va_P X.1 vwCl (cM X mi ml ma mb) H) (R : Rel gi gl ga vS vF sN sF mi ml ma) (hS : va_S (fun q => s.heap.size ≤ q) s.heap H locs) (hl : lv_has ls 4 [(3, .int (nI j)), (2, .ref (xB X 0)), (1, .ref (xA X 0)), (0, .ref b)]) (kk : ∀ (gi : Nat → Int32) (gl : Nat → Int64) (ga : Nat → Nat → Int32) (vS : Nat → Nat → Int32) (vF : Nat → Nat → Nat → Int32) (sN : Nat → Int32) (sF : Nat → Nat → Int32) (mi : Nat → Int32) (ml : Nat → Int64) (ma : Nat → Nat → Int32) (mb : Nat → Nat → Int64) (H : Heap) (locs : List Loc), va_P X.1 vwCl (cG X gi gl ga vS vF sN sF) H → va_P X.1 vwCl (cM X mi ml ma mb) H → Rel gi gl ga vS vF sN sF mi ml ma → va_S (fun q => s.heap.size ≤ q) s.heap H locs → W p l e room_1 s m #[Value.ref b] below meth c H locs ce sl Q (F0 m 1487 ls [])) : W p l e room_1 s m #[Value.ref b] below meth c H locs ce sl Q (F0 m 679 ls []) := by
  obtain ⟨hx, hb, hr, hml, hown, hts0, hX, hbl, hlocks, hgv⟩ := id C0
  have hts := lw_hts hts0
  have hown : s.vm.findClass RL = some m.cls := hown
  have hbA : ¬ (fun q : Nat => s.heap.size ≤ q) b := Nat.not_le.mpr hbl
  have lin : ∀ k, k < 6 → vp_in (nI j + nI k) L := fun k hk => by rw [nI_add]; exact vp_in_nI (by omega) (by omega)
  obtain ⟨r, vS', vF', mi', ma', e1, e2, R'⟩ := st_touch R (xs (nI j + 1).toNatClampNeg) (xs (nI j + 2).toNatClampNeg) (xs (nI j + 3).toNatClampNeg)
  refine lv_aload_n hx hb dL_law_679 rfl (lv_at hl 2 rfl) ?_
  refine lv_aload_n hx hb dL_law_680 rfl (lv_at hl 3 rfl) ?_
  refine lv_iload_n hx hb dL_law_681 rfl (lv_at hl 0 rfl) ?_
  refine lv_iconst (v := 1) hx hb dL_law_682 (by decide) ?_
  refine lv_iadd hx hb dL_law_683 ?_
  refine va_sld hx hb hX hbl hbA hS (lin 1 (by decide)) dL_law_684 ?_
  refine lv_aload_n hx hb dL_law_685 rfl (lv_at hl 3 rfl) ?_
  refine lv_iload_n hx hb dL_law_686 rfl (lv_at hl 0 rfl) ?_
  refine lv_iconst (v := 2) hx hb dL_law_687 (by decide) ?_
  refine lv_iadd hx hb dL_law_688 ?_
  refine va_sld hx hb hX hbl hbA hS (lin 2 (by decide)) dL_law_689 ?_
  refine lv_aload_n hx hb dL_law_690 rfl (lv_at hl 3 rfl) ?_
  refine lv_iload_n hx hb dL_law_691 rfl (lv_at hl 0 rfl) ?_
  refine lv_iconst (v := 3) hx hb dL_law_692 (by decide) ?_
  refine lv_iadd hx hb dL_law_693 ?_
  refine va_sld hx hb hX hbl hbA hS (lin 3 (by decide)) dL_law_694 ?_
  refine wcV (As := [.int (xs (nI j + 1).toNatClampNeg), .int (xs (nI j + 2).toNatClampNeg), .int (xs (nI j + 3).toNatClampNeg)]) (rest := []) ⟨hx, hb, hml, hown, hts⟩ (c_X8_touch l X gi gl ga vS vF sN sF (xs (nI j + 1).toNatClampNeg) (xs (nI j + 2).toNatClampNeg) (xs (nI j + 3).toNatClampNeg) e1) ⟨w_421, w_422, w_423, w_52, w_424⟩ hd_X8_touch rfl rfl ⟨(Nat.le_of_ble_eq_true rfl), (Nat.le_of_ble_eq_true rfl)⟩ hce gPre_blind (va_recv (ci := 4) (q0 := 0) K.1 hPG rfl rfl) (gPre_law K hPG hS) hS K.2.2.2.1 rfl rfl hl.1 (Nat.le_of_ble_eq_true rfl) dL_law_695 (fun H locs hPG hk hS => ?_)
  have hPM := keepM K hPM hk
  refine lv_aload_n hx hb dL_law_698 rfl (lv_at hl 1 rfl) ?_
  refine lv_aload_n hx hb dL_law_699 rfl (lv_at hl 3 rfl) ?_
  refine lv_iload_n hx hb dL_law_700 rfl (lv_at hl 0 rfl) ?_
  refine lv_iconst (v := 1) hx hb dL_law_701 (by decide) ?_
  refine lv_iadd hx hb dL_law_702 ?_
  refine va_sld hx hb hX hbl hbA hS (lin 1 (by decide)) dL_law_703 ?_
  refine lv_aload_n hx hb dL_law_704 rfl (lv_at hl 3 rfl) ?_
  refine lv_iload_n hx hb dL_law_705 rfl (lv_at hl 0 rfl) ?_
  refine lv_iconst (v := 2) hx hb dL_law_706 (by decide) ?_
  refine lv_iadd hx hb dL_law_707 ?_
  refine va_sld hx hb hX hbl hbA hS (lin 2 (by decide)) dL_law_708 ?_
  refine lv_aload_n hx hb dL_law_709 rfl (lv_at hl 3 rfl) ?_
  refine lv_iload_n hx hb dL_law_710 rfl (lv_at hl 0 rfl) ?_
  refine lv_iconst (v := 3) hx hb dL_law_711 (by decide) ?_
  refine lv_iadd hx hb dL_law_712 ?_
  refine va_sld hx hb hX hbl hbA hS (lin 3 (by decide)) dL_law_713 ?_
  refine wcV (As := [.int (xs (nI j + 1).toNatClampNeg), .int (xs (nI j + 2).toNatClampNeg), .int (xs (nI j + 3).toNatClampNeg)]) (rest := [.int r]) ⟨hx, hb, hml, hown, hts⟩ (c_X9_touch l X mi ml ma mb (xs (nI j + 1).toNatClampNeg) (xs (nI j + 2).toNatClampNeg) (xs (nI j + 3).toNatClampNeg) e2) ⟨w_1051, w_1052, w_1053, w_58, w_1054⟩ hd_X9_touch rfl rfl ⟨(Nat.le_of_ble_eq_true rfl), (Nat.le_of_ble_eq_true rfl)⟩ hce mPre_blind (va_recv (ci := 5) (q0 := 0) K.1 hPM rfl rfl) (mPre_call hPM K.1 K.2.2.1) hS K.2.2.2.2.1 rfl rfl hl.1 (Nat.le_of_ble_eq_true rfl) dL_law_714 (fun H locs hPM hk hS => ?_)
  have hPG := keepG K hPG hk
  exact lv_icmp_eq (tgt := 1487) hx hb dL_law_717 (by decide) (fun _ => kk _ _ _ _ _ _ _ _ _ _ _ _ _ hPG hPM R' hS) (fun cN => absurd rfl cN)
set_option maxHeartbeats 4000000 in
set_option maxRecDepth 100000 in
/-- laugh -/
theorem lc_14 (C0 : lw_At p s m meth c b L xs) (K : LCs s X) {j : Nat} (hj : j + 6 ≤ L) (hL : L ≤ 384) (hce : ce + 0 ≤ room_1.cells ∧ sl + 0 ≤ room_1.slots) (hPG : va_P X.1 vwCl (cG X gi gl ga vS vF sN sF) H) (hPM : va_P X.1 vwCl (cM X mi ml ma mb) H) (R : Rel gi gl ga vS vF sN sF mi ml ma) (hS : va_S (fun q => s.heap.size ≤ q) s.heap H locs) (hl : lv_has ls 4 [(3, .int (nI j)), (2, .ref (xB X 0)), (1, .ref (xA X 0)), (0, .ref b)]) (kk : ∀ (gi : Nat → Int32) (gl : Nat → Int64) (ga : Nat → Nat → Int32) (vS : Nat → Nat → Int32) (vF : Nat → Nat → Nat → Int32) (sN : Nat → Int32) (sF : Nat → Nat → Int32) (mi : Nat → Int32) (ml : Nat → Int64) (ma : Nat → Nat → Int32) (mb : Nat → Nat → Int64) (H : Heap) (locs : List Loc), va_P X.1 vwCl (cG X gi gl ga vS vF sN sF) H → va_P X.1 vwCl (cM X mi ml ma mb) H → Rel gi gl ga vS vF sN sF mi ml ma → va_S (fun q => s.heap.size ≤ q) s.heap H locs → W p l e room_1 s m #[Value.ref b] below meth c H locs ce sl Q (F0 m 1487 ls [])) : W p l e room_1 s m #[Value.ref b] below meth c H locs ce sl Q (F0 m 722 ls []) := by
  obtain ⟨hx, hb, hr, hml, hown, hts0, hX, hbl, hlocks, hgv⟩ := id C0
  have hts := lw_hts hts0
  have hown : s.vm.findClass RL = some m.cls := hown
  have hbA : ¬ (fun q : Nat => s.heap.size ≤ q) b := Nat.not_le.mpr hbl
  have lin : ∀ k, k < 6 → vp_in (nI j + nI k) L := fun k hk => by rw [nI_add]; exact vp_in_nI (by omega) (by omega)
  obtain ⟨r, vS', vF', mi', ma', e1, e2, R'⟩ := st_laugh R (xs (nI j + 1).toNatClampNeg)
  refine lv_aload_n hx hb dL_law_722 rfl (lv_at hl 2 rfl) ?_
  refine lv_aload_n hx hb dL_law_723 rfl (lv_at hl 3 rfl) ?_
  refine lv_iload_n hx hb dL_law_724 rfl (lv_at hl 0 rfl) ?_
  refine lv_iconst (v := 1) hx hb dL_law_725 (by decide) ?_
  refine lv_iadd hx hb dL_law_726 ?_
  refine va_sld hx hb hX hbl hbA hS (lin 1 (by decide)) dL_law_727 ?_
  refine wcV (As := [.int (xs (nI j + 1).toNatClampNeg)]) (rest := []) ⟨hx, hb, hml, hown, hts⟩ (c_X8_laugh l X gi gl ga vS vF sN sF (xs (nI j + 1).toNatClampNeg) e1) ⟨w_449, w_450, w_451, w_52, w_452⟩ hd_X8_laugh rfl rfl ⟨(Nat.le_of_ble_eq_true rfl), (Nat.le_of_ble_eq_true rfl)⟩ hce gPre_blind (va_recv (ci := 4) (q0 := 0) K.1 hPG rfl rfl) (gPre_law K hPG hS) hS K.2.2.2.1 rfl rfl hl.1 (Nat.le_of_ble_eq_true rfl) dL_law_728 (fun H locs hPG hk hS => ?_)
  have hPM := keepM K hPM hk
  refine lv_aload_n hx hb dL_law_731 rfl (lv_at hl 1 rfl) ?_
  refine lv_aload_n hx hb dL_law_732 rfl (lv_at hl 3 rfl) ?_
  refine lv_iload_n hx hb dL_law_733 rfl (lv_at hl 0 rfl) ?_
  refine lv_iconst (v := 1) hx hb dL_law_734 (by decide) ?_
  refine lv_iadd hx hb dL_law_735 ?_
  refine va_sld hx hb hX hbl hbA hS (lin 1 (by decide)) dL_law_736 ?_
  refine wcV (As := [.int (xs (nI j + 1).toNatClampNeg)]) (rest := [.int r]) ⟨hx, hb, hml, hown, hts⟩ (c_X9_laugh l X mi ml ma mb (xs (nI j + 1).toNatClampNeg) e2) ⟨w_1063, w_1064, w_1065, w_58, w_1066⟩ hd_X9_laugh rfl rfl ⟨(Nat.le_of_ble_eq_true rfl), (Nat.le_of_ble_eq_true rfl)⟩ hce mPre_blind (va_recv (ci := 5) (q0 := 0) K.1 hPM rfl rfl) (mPre_call hPM K.1 K.2.2.1) hS K.2.2.2.2.1 rfl rfl hl.1 (Nat.le_of_ble_eq_true rfl) dL_law_737 (fun H locs hPM hk hS => ?_)
  have hPG := keepG K hPG hk
  exact lv_icmp_eq (tgt := 1487) hx hb dL_law_740 (by decide) (fun _ => kk _ _ _ _ _ _ _ _ _ _ _ _ _ hPG hPM R' hS) (fun cN => absurd rfl cN)
set_option maxHeartbeats 4000000 in
set_option maxRecDepth 100000 in
/-- days -/
theorem lc_15 (C0 : lw_At p s m meth c b L xs) (K : LCs s X) {j : Nat} (hj : j + 6 ≤ L) (hL : L ≤ 384) (hce : ce + 0 ≤ room_1.cells ∧ sl + 0 ≤ room_1.slots) (hPG : va_P X.1 vwCl (cG X gi gl ga vS vF sN sF) H) (hPM : va_P X.1 vwCl (cM X mi ml ma mb) H) (R : Rel gi gl ga vS vF sN sF mi ml ma) (hS : va_S (fun q => s.heap.size ≤ q) s.heap H locs) (hl : lv_has ls 4 [(3, .int (nI j)), (2, .ref (xB X 0)), (1, .ref (xA X 0)), (0, .ref b)]) (kk : ∀ (gi : Nat → Int32) (gl : Nat → Int64) (ga : Nat → Nat → Int32) (vS : Nat → Nat → Int32) (vF : Nat → Nat → Nat → Int32) (sN : Nat → Int32) (sF : Nat → Nat → Int32) (mi : Nat → Int32) (ml : Nat → Int64) (ma : Nat → Nat → Int32) (mb : Nat → Nat → Int64) (H : Heap) (locs : List Loc), va_P X.1 vwCl (cG X gi gl ga vS vF sN sF) H → va_P X.1 vwCl (cM X mi ml ma mb) H → Rel gi gl ga vS vF sN sF mi ml ma → va_S (fun q => s.heap.size ≤ q) s.heap H locs → W p l e room_1 s m #[Value.ref b] below meth c H locs ce sl Q (F0 m 1487 ls [])) : W p l e room_1 s m #[Value.ref b] below meth c H locs ce sl Q (F0 m 745 ls []) := by
  obtain ⟨hx, hb, hr, hml, hown, hts0, hX, hbl, hlocks, hgv⟩ := id C0
  have hts := lw_hts hts0
  have hown : s.vm.findClass RL = some m.cls := hown
  have hbA : ¬ (fun q : Nat => s.heap.size ≤ q) b := Nat.not_le.mpr hbl
  have lin : ∀ k, k < 6 → vp_in (nI j + nI k) L := fun k hk => by rw [nI_add]; exact vp_in_nI (by omega) (by omega)
  obtain ⟨r, vS', vF', mi', ma', e1, e2, R'⟩ := st_days R (xs (nI j + 1).toNatClampNeg)
  refine lv_aload_n hx hb dL_law_745 rfl (lv_at hl 2 rfl) ?_
  refine lv_aload_n hx hb dL_law_746 rfl (lv_at hl 3 rfl) ?_
  refine lv_iload_n hx hb dL_law_747 rfl (lv_at hl 0 rfl) ?_
  refine lv_iconst (v := 1) hx hb dL_law_748 (by decide) ?_
  refine lv_iadd hx hb dL_law_749 ?_
  refine va_sld hx hb hX hbl hbA hS (lin 1 (by decide)) dL_law_750 ?_
  refine wcV (As := [.int (xs (nI j + 1).toNatClampNeg)]) (rest := []) ⟨hx, hb, hml, hown, hts⟩ (c_X8_days l X gi gl ga vS vF sN sF (xs (nI j + 1).toNatClampNeg) e1) ⟨w_468, w_469, w_470, w_52, w_471⟩ hd_X8_days rfl rfl ⟨(Nat.le_of_ble_eq_true rfl), (Nat.le_of_ble_eq_true rfl)⟩ hce gPre_blind (va_recv (ci := 4) (q0 := 0) K.1 hPG rfl rfl) (gPre_law K hPG hS) hS K.2.2.2.1 rfl rfl hl.1 (Nat.le_of_ble_eq_true rfl) dL_law_751 (fun H locs hPG hk hS => ?_)
  have hPM := keepM K hPM hk
  refine lv_aload_n hx hb dL_law_754 rfl (lv_at hl 1 rfl) ?_
  refine lv_aload_n hx hb dL_law_755 rfl (lv_at hl 3 rfl) ?_
  refine lv_iload_n hx hb dL_law_756 rfl (lv_at hl 0 rfl) ?_
  refine lv_iconst (v := 1) hx hb dL_law_757 (by decide) ?_
  refine lv_iadd hx hb dL_law_758 ?_
  refine va_sld hx hb hX hbl hbA hS (lin 1 (by decide)) dL_law_759 ?_
  refine wcV (As := [.int (xs (nI j + 1).toNatClampNeg)]) (rest := [.int r]) ⟨hx, hb, hml, hown, hts⟩ (c_X9_days l X mi ml ma mb (xs (nI j + 1).toNatClampNeg) e2) ⟨w_1071, w_1072, w_1073, w_58, w_1074⟩ hd_X9_days rfl rfl ⟨(Nat.le_of_ble_eq_true rfl), (Nat.le_of_ble_eq_true rfl)⟩ hce mPre_blind (va_recv (ci := 5) (q0 := 0) K.1 hPM rfl rfl) (mPre_call hPM K.1 K.2.2.1) hS K.2.2.2.2.1 rfl rfl hl.1 (Nat.le_of_ble_eq_true rfl) dL_law_760 (fun H locs hPM hk hS => ?_)
  have hPG := keepG K hPG hk
  exact lv_icmp_eq (tgt := 1487) hx hb dL_law_763 (by decide) (fun _ => kk _ _ _ _ _ _ _ _ _ _ _ _ _ hPG hPM R' hS) (fun cN => absurd rfl cN)
set_option maxHeartbeats 4000000 in
set_option maxRecDepth 100000 in
/-- undo -/
theorem lc_16 (C0 : lw_At p s m meth c b L xs) (K : LCs s X) {j : Nat} (hj : j + 6 ≤ L) (hL : L ≤ 384) (hce : ce + 0 ≤ room_1.cells ∧ sl + 0 ≤ room_1.slots) (hPG : va_P X.1 vwCl (cG X gi gl ga vS vF sN sF) H) (hPM : va_P X.1 vwCl (cM X mi ml ma mb) H) (R : Rel gi gl ga vS vF sN sF mi ml ma) (hS : va_S (fun q => s.heap.size ≤ q) s.heap H locs) (hl : lv_has ls 4 [(3, .int (nI j)), (2, .ref (xB X 0)), (1, .ref (xA X 0)), (0, .ref b)]) (kk : ∀ (gi : Nat → Int32) (gl : Nat → Int64) (ga : Nat → Nat → Int32) (vS : Nat → Nat → Int32) (vF : Nat → Nat → Nat → Int32) (sN : Nat → Int32) (sF : Nat → Nat → Int32) (mi : Nat → Int32) (ml : Nat → Int64) (ma : Nat → Nat → Int32) (mb : Nat → Nat → Int64) (H : Heap) (locs : List Loc), va_P X.1 vwCl (cG X gi gl ga vS vF sN sF) H → va_P X.1 vwCl (cM X mi ml ma mb) H → Rel gi gl ga vS vF sN sF mi ml ma → va_S (fun q => s.heap.size ≤ q) s.heap H locs → W p l e room_1 s m #[Value.ref b] below meth c H locs ce sl Q (F0 m 1487 ls [])) : W p l e room_1 s m #[Value.ref b] below meth c H locs ce sl Q (F0 m 768 ls []) := by
  obtain ⟨hx, hb, hr, hml, hown, hts0, hX, hbl, hlocks, hgv⟩ := id C0
  have hts := lw_hts hts0
  have hown : s.vm.findClass RL = some m.cls := hown
  have hbA : ¬ (fun q : Nat => s.heap.size ≤ q) b := Nat.not_le.mpr hbl
  have lin : ∀ k, k < 6 → vp_in (nI j + nI k) L := fun k hk => by rw [nI_add]; exact vp_in_nI (by omega) (by omega)
  obtain ⟨r, vS', vF', mi', ma', e1, e2, R'⟩ := st_undo R (xs (nI j + 1).toNatClampNeg)
  refine lv_aload_n hx hb dL_law_768 rfl (lv_at hl 2 rfl) ?_
  refine lv_aload_n hx hb dL_law_769 rfl (lv_at hl 3 rfl) ?_
  refine lv_iload_n hx hb dL_law_770 rfl (lv_at hl 0 rfl) ?_
  refine lv_iconst (v := 1) hx hb dL_law_771 (by decide) ?_
  refine lv_iadd hx hb dL_law_772 ?_
  refine va_sld hx hb hX hbl hbA hS (lin 1 (by decide)) dL_law_773 ?_
  refine wcV (As := [.int (xs (nI j + 1).toNatClampNeg)]) (rest := []) ⟨hx, hb, hml, hown, hts⟩ (c_X8_undo l X gi gl ga vS vF sN sF (xs (nI j + 1).toNatClampNeg) e1) ⟨w_472, w_473, w_474, w_52, w_475⟩ hd_X8_undo rfl rfl ⟨(Nat.le_of_ble_eq_true rfl), (Nat.le_of_ble_eq_true rfl)⟩ hce gPre_blind (va_recv (ci := 4) (q0 := 0) K.1 hPG rfl rfl) (gPre_law K hPG hS) hS K.2.2.2.1 rfl rfl hl.1 (Nat.le_of_ble_eq_true rfl) dL_law_774 (fun H locs hPG hk hS => ?_)
  have hPM := keepM K hPM hk
  refine lv_aload_n hx hb dL_law_777 rfl (lv_at hl 1 rfl) ?_
  refine lv_aload_n hx hb dL_law_778 rfl (lv_at hl 3 rfl) ?_
  refine lv_iload_n hx hb dL_law_779 rfl (lv_at hl 0 rfl) ?_
  refine lv_iconst (v := 1) hx hb dL_law_780 (by decide) ?_
  refine lv_iadd hx hb dL_law_781 ?_
  refine va_sld hx hb hX hbl hbA hS (lin 1 (by decide)) dL_law_782 ?_
  refine wcV (As := [.int (xs (nI j + 1).toNatClampNeg)]) (rest := [.int r]) ⟨hx, hb, hml, hown, hts⟩ (c_X9_undo l X mi ml ma mb (xs (nI j + 1).toNatClampNeg) e2) ⟨w_1076, w_1077, w_1078, w_58, w_1079⟩ hd_X9_undo rfl rfl ⟨(Nat.le_of_ble_eq_true rfl), (Nat.le_of_ble_eq_true rfl)⟩ hce mPre_blind (va_recv (ci := 5) (q0 := 0) K.1 hPM rfl rfl) (mPre_call hPM K.1 K.2.2.1) hS K.2.2.2.2.1 rfl rfl hl.1 (Nat.le_of_ble_eq_true rfl) dL_law_783 (fun H locs hPM hk hS => ?_)
  have hPG := keepG K hPG hk
  exact lv_icmp_eq (tgt := 1487) hx hb dL_law_786 (by decide) (fun _ => kk _ _ _ _ _ _ _ _ _ _ _ _ _ hPG hPM R' hS) (fun cN => absurd rfl cN)
set_option maxHeartbeats 4000000 in
set_option maxRecDepth 100000 in
/-- stuck -/
theorem lc_17 (C0 : lw_At p s m meth c b L xs) (K : LCs s X) {j : Nat} (hj : j + 6 ≤ L) (hL : L ≤ 384) (hce : ce + 0 ≤ room_1.cells ∧ sl + 0 ≤ room_1.slots) (hPG : va_P X.1 vwCl (cG X gi gl ga vS vF sN sF) H) (hPM : va_P X.1 vwCl (cM X mi ml ma mb) H) (R : Rel gi gl ga vS vF sN sF mi ml ma) (hS : va_S (fun q => s.heap.size ≤ q) s.heap H locs) (hl : lv_has ls 4 [(3, .int (nI j)), (2, .ref (xB X 0)), (1, .ref (xA X 0)), (0, .ref b)]) (kk : ∀ (gi : Nat → Int32) (gl : Nat → Int64) (ga : Nat → Nat → Int32) (vS : Nat → Nat → Int32) (vF : Nat → Nat → Nat → Int32) (sN : Nat → Int32) (sF : Nat → Nat → Int32) (mi : Nat → Int32) (ml : Nat → Int64) (ma : Nat → Nat → Int32) (mb : Nat → Nat → Int64) (H : Heap) (locs : List Loc), va_P X.1 vwCl (cG X gi gl ga vS vF sN sF) H → va_P X.1 vwCl (cM X mi ml ma mb) H → Rel gi gl ga vS vF sN sF mi ml ma → va_S (fun q => s.heap.size ≤ q) s.heap H locs → W p l e room_1 s m #[Value.ref b] below meth c H locs ce sl Q (F0 m 1487 ls [])) : W p l e room_1 s m #[Value.ref b] below meth c H locs ce sl Q (F0 m 791 ls []) := by
  obtain ⟨hx, hb, hr, hml, hown, hts0, hX, hbl, hlocks, hgv⟩ := id C0
  have hts := lw_hts hts0
  have hown : s.vm.findClass RL = some m.cls := hown
  have hbA : ¬ (fun q : Nat => s.heap.size ≤ q) b := Nat.not_le.mpr hbl
  have lin : ∀ k, k < 6 → vp_in (nI j + nI k) L := fun k hk => by rw [nI_add]; exact vp_in_nI (by omega) (by omega)
  obtain ⟨r, e1, e2⟩ := st_stuck R.2.2.2
  refine lv_aload_n hx hb dL_law_791 rfl (lv_at hl 2 rfl) ?_
  refine rcV (As := []) (rest := []) ⟨hx, hb, hml, hown, hts⟩ (c_X8_stuck l X gi gl ga vS vF sN sF e1) ⟨w_481, w_482, w_483, w_52, w_484⟩ hd_X8_stuck rfl rfl ⟨(Nat.le_of_ble_eq_true rfl), (Nat.le_of_ble_eq_true rfl)⟩ hce gPre_blind (va_recv (ci := 4) (q0 := 0) K.1 hPG rfl rfl) (gPre_law K hPG hS) rfl rfl hl.1 (Nat.le_of_ble_eq_true rfl) dL_law_792 ?_
  refine lv_aload_n hx hb dL_law_795 rfl (lv_at hl 1 rfl) ?_
  refine rcV (As := []) (rest := [.int r]) ⟨hx, hb, hml, hown, hts⟩ (c_X9_stuck l X mi ml ma mb e2) ⟨w_1080, w_1081, w_1082, w_58, w_1083⟩ hd_X9_stuck rfl rfl ⟨(Nat.le_of_ble_eq_true rfl), (Nat.le_of_ble_eq_true rfl)⟩ hce mPre_blind (va_recv (ci := 5) (q0 := 0) K.1 hPM rfl rfl) (mPre_call hPM K.1 K.2.2.1) rfl rfl hl.1 (Nat.le_of_ble_eq_true rfl) dL_law_796 ?_
  exact lv_icmp_eq (tgt := 1487) hx hb dL_law_799 (by decide) (fun _ => kk _ _ _ _ _ _ _ _ _ _ _ _ _ hPG hPM R hS) (fun cN => absurd rfl cN)
set_option maxHeartbeats 4000000 in
set_option maxRecDepth 100000 in
/-- canLaugh -/
theorem lc_18 (C0 : lw_At p s m meth c b L xs) (K : LCs s X) {j : Nat} (hj : j + 6 ≤ L) (hL : L ≤ 384) (hce : ce + 0 ≤ room_1.cells ∧ sl + 0 ≤ room_1.slots) (hPG : va_P X.1 vwCl (cG X gi gl ga vS vF sN sF) H) (hPM : va_P X.1 vwCl (cM X mi ml ma mb) H) (R : Rel gi gl ga vS vF sN sF mi ml ma) (hS : va_S (fun q => s.heap.size ≤ q) s.heap H locs) (hl : lv_has ls 4 [(3, .int (nI j)), (2, .ref (xB X 0)), (1, .ref (xA X 0)), (0, .ref b)]) (kk : ∀ (gi : Nat → Int32) (gl : Nat → Int64) (ga : Nat → Nat → Int32) (vS : Nat → Nat → Int32) (vF : Nat → Nat → Nat → Int32) (sN : Nat → Int32) (sF : Nat → Nat → Int32) (mi : Nat → Int32) (ml : Nat → Int64) (ma : Nat → Nat → Int32) (mb : Nat → Nat → Int64) (H : Heap) (locs : List Loc), va_P X.1 vwCl (cG X gi gl ga vS vF sN sF) H → va_P X.1 vwCl (cM X mi ml ma mb) H → Rel gi gl ga vS vF sN sF mi ml ma → va_S (fun q => s.heap.size ≤ q) s.heap H locs → W p l e room_1 s m #[Value.ref b] below meth c H locs ce sl Q (F0 m 1487 ls [])) : W p l e room_1 s m #[Value.ref b] below meth c H locs ce sl Q (F0 m 804 ls []) := by
  obtain ⟨hx, hb, hr, hml, hown, hts0, hX, hbl, hlocks, hgv⟩ := id C0
  have hts := lw_hts hts0
  have hown : s.vm.findClass RL = some m.cls := hown
  have hbA : ¬ (fun q : Nat => s.heap.size ≤ q) b := Nat.not_le.mpr hbl
  have lin : ∀ k, k < 6 → vp_in (nI j + nI k) L := fun k hk => by rw [nI_add]; exact vp_in_nI (by omega) (by omega)
  obtain ⟨r, e1, e2⟩ := st_canLaugh R.2.2.2
  refine lv_aload_n hx hb dL_law_804 rfl (lv_at hl 2 rfl) ?_
  refine rcV (As := []) (rest := []) ⟨hx, hb, hml, hown, hts⟩ (c_X8_canLaugh l X gi gl ga vS vF sN sF e1) ⟨w_486, w_487, w_488, w_52, w_489⟩ hd_X8_canLaugh rfl rfl ⟨(Nat.le_of_ble_eq_true rfl), (Nat.le_of_ble_eq_true rfl)⟩ hce gPre_blind (va_recv (ci := 4) (q0 := 0) K.1 hPG rfl rfl) (gPre_law K hPG hS) rfl rfl hl.1 (Nat.le_of_ble_eq_true rfl) dL_law_805 ?_
  refine lv_aload_n hx hb dL_law_808 rfl (lv_at hl 1 rfl) ?_
  refine rcV (As := []) (rest := [.int r]) ⟨hx, hb, hml, hown, hts⟩ (c_X9_canLaugh l X mi ml ma mb e2) ⟨w_1084, w_1085, w_1086, w_58, w_1087⟩ hd_X9_canLaugh rfl rfl ⟨(Nat.le_of_ble_eq_true rfl), (Nat.le_of_ble_eq_true rfl)⟩ hce mPre_blind (va_recv (ci := 5) (q0 := 0) K.1 hPM rfl rfl) (mPre_call hPM K.1 K.2.2.1) rfl rfl hl.1 (Nat.le_of_ble_eq_true rfl) dL_law_809 ?_
  exact lv_icmp_eq (tgt := 1487) hx hb dL_law_812 (by decide) (fun _ => kk _ _ _ _ _ _ _ _ _ _ _ _ _ hPG hPM R hS) (fun cN => absurd rfl cN)
set_option maxHeartbeats 4000000 in
set_option maxRecDepth 100000 in
/-- hang -/
theorem lc_19 (C0 : lw_At p s m meth c b L xs) (K : LCs s X) {j : Nat} (hj : j + 6 ≤ L) (hL : L ≤ 384) (hce : ce + 0 ≤ room_1.cells ∧ sl + 0 ≤ room_1.slots) (hPG : va_P X.1 vwCl (cG X gi gl ga vS vF sN sF) H) (hPM : va_P X.1 vwCl (cM X mi ml ma mb) H) (R : Rel gi gl ga vS vF sN sF mi ml ma) (hS : va_S (fun q => s.heap.size ≤ q) s.heap H locs) (hl : lv_has ls 4 [(3, .int (nI j)), (2, .ref (xB X 0)), (1, .ref (xA X 0)), (0, .ref b)]) (kk : ∀ (gi : Nat → Int32) (gl : Nat → Int64) (ga : Nat → Nat → Int32) (vS : Nat → Nat → Int32) (vF : Nat → Nat → Nat → Int32) (sN : Nat → Int32) (sF : Nat → Nat → Int32) (mi : Nat → Int32) (ml : Nat → Int64) (ma : Nat → Nat → Int32) (mb : Nat → Nat → Int64) (H : Heap) (locs : List Loc), va_P X.1 vwCl (cG X gi gl ga vS vF sN sF) H → va_P X.1 vwCl (cM X mi ml ma mb) H → Rel gi gl ga vS vF sN sF mi ml ma → va_S (fun q => s.heap.size ≤ q) s.heap H locs → W p l e room_1 s m #[Value.ref b] below meth c H locs ce sl Q (F0 m 1487 ls [])) : W p l e room_1 s m #[Value.ref b] below meth c H locs ce sl Q (F0 m 817 ls []) := by
  obtain ⟨hx, hb, hr, hml, hown, hts0, hX, hbl, hlocks, hgv⟩ := id C0
  have hts := lw_hts hts0
  have hown : s.vm.findClass RL = some m.cls := hown
  have hbA : ¬ (fun q : Nat => s.heap.size ≤ q) b := Nat.not_le.mpr hbl
  have lin : ∀ k, k < 6 → vp_in (nI j + nI k) L := fun k hk => by rw [nI_add]; exact vp_in_nI (by omega) (by omega)
  obtain ⟨r, e1, e2⟩ := st_hang R.2.2.2 (xs (nI j + 1).toNatClampNeg)
  refine lv_aload_n hx hb dL_law_817 rfl (lv_at hl 2 rfl) ?_
  refine lv_aload_n hx hb dL_law_818 rfl (lv_at hl 3 rfl) ?_
  refine lv_iload_n hx hb dL_law_819 rfl (lv_at hl 0 rfl) ?_
  refine lv_iconst (v := 1) hx hb dL_law_820 (by decide) ?_
  refine lv_iadd hx hb dL_law_821 ?_
  refine va_sld hx hb hX hbl hbA hS (lin 1 (by decide)) dL_law_822 ?_
  refine rcV (As := [.int (xs (nI j + 1).toNatClampNeg)]) (rest := []) ⟨hx, hb, hml, hown, hts⟩ (c_X8_hang l X gi gl ga vS vF sN sF (xs (nI j + 1).toNatClampNeg) e1) ⟨w_490, w_491, w_492, w_52, w_493⟩ hd_X8_hang rfl rfl ⟨(Nat.le_of_ble_eq_true rfl), (Nat.le_of_ble_eq_true rfl)⟩ hce gPre_blind (va_recv (ci := 4) (q0 := 0) K.1 hPG rfl rfl) (gPre_law K hPG hS) rfl rfl hl.1 (Nat.le_of_ble_eq_true rfl) dL_law_823 ?_
  refine lv_aload_n hx hb dL_law_826 rfl (lv_at hl 1 rfl) ?_
  refine lv_aload_n hx hb dL_law_827 rfl (lv_at hl 3 rfl) ?_
  refine lv_iload_n hx hb dL_law_828 rfl (lv_at hl 0 rfl) ?_
  refine lv_iconst (v := 1) hx hb dL_law_829 (by decide) ?_
  refine lv_iadd hx hb dL_law_830 ?_
  refine va_sld hx hb hX hbl hbA hS (lin 1 (by decide)) dL_law_831 ?_
  refine rcV (As := [.int (xs (nI j + 1).toNatClampNeg)]) (rest := [.int r]) ⟨hx, hb, hml, hown, hts⟩ (c_X9_hang l X mi ml ma mb (xs (nI j + 1).toNatClampNeg) e2) ⟨w_1088, w_1089, w_1090, w_58, w_1091⟩ hd_X9_hang rfl rfl ⟨(Nat.le_of_ble_eq_true rfl), (Nat.le_of_ble_eq_true rfl)⟩ hce mPre_blind (va_recv (ci := 5) (q0 := 0) K.1 hPM rfl rfl) (mPre_call hPM K.1 K.2.2.1) rfl rfl hl.1 (Nat.le_of_ble_eq_true rfl) dL_law_832 ?_
  exact lv_icmp_eq (tgt := 1487) hx hb dL_law_835 (by decide) (fun _ => kk _ _ _ _ _ _ _ _ _ _ _ _ _ hPG hPM R hS) (fun cN => absurd rfl cN)
set_option maxHeartbeats 4000000 in
set_option maxRecDepth 100000 in
/-- train -/
theorem lc_20 (C0 : lw_At p s m meth c b L xs) (K : LCs s X) {j : Nat} (hj : j + 6 ≤ L) (hL : L ≤ 384) (hce : ce + 0 ≤ room_1.cells ∧ sl + 0 ≤ room_1.slots) (hPG : va_P X.1 vwCl (cG X gi gl ga vS vF sN sF) H) (hPM : va_P X.1 vwCl (cM X mi ml ma mb) H) (R : Rel gi gl ga vS vF sN sF mi ml ma) (hS : va_S (fun q => s.heap.size ≤ q) s.heap H locs) (hl : lv_has ls 4 [(3, .int (nI j)), (2, .ref (xB X 0)), (1, .ref (xA X 0)), (0, .ref b)]) (kk : ∀ (gi : Nat → Int32) (gl : Nat → Int64) (ga : Nat → Nat → Int32) (vS : Nat → Nat → Int32) (vF : Nat → Nat → Nat → Int32) (sN : Nat → Int32) (sF : Nat → Nat → Int32) (mi : Nat → Int32) (ml : Nat → Int64) (ma : Nat → Nat → Int32) (mb : Nat → Nat → Int64) (H : Heap) (locs : List Loc), va_P X.1 vwCl (cG X gi gl ga vS vF sN sF) H → va_P X.1 vwCl (cM X mi ml ma mb) H → Rel gi gl ga vS vF sN sF mi ml ma → va_S (fun q => s.heap.size ≤ q) s.heap H locs → W p l e room_1 s m #[Value.ref b] below meth c H locs ce sl Q (F0 m 1487 ls [])) : W p l e room_1 s m #[Value.ref b] below meth c H locs ce sl Q (F0 m 840 ls []) := by
  obtain ⟨hx, hb, hr, hml, hown, hts0, hX, hbl, hlocks, hgv⟩ := id C0
  have hts := lw_hts hts0
  have hown : s.vm.findClass RL = some m.cls := hown
  have hbA : ¬ (fun q : Nat => s.heap.size ≤ q) b := Nat.not_le.mpr hbl
  have lin : ∀ k, k < 6 → vp_in (nI j + nI k) L := fun k hk => by rw [nI_add]; exact vp_in_nI (by omega) (by omega)
  obtain ⟨r, sN', sF', mi', ma', e1, e2, R'⟩ := st_train R (xs (nI j + 1).toNatClampNeg)
  refine lv_aload_n hx hb dL_law_840 rfl (lv_at hl 2 rfl) ?_
  refine lv_aload_n hx hb dL_law_841 rfl (lv_at hl 3 rfl) ?_
  refine lv_iload_n hx hb dL_law_842 rfl (lv_at hl 0 rfl) ?_
  refine lv_iconst (v := 1) hx hb dL_law_843 (by decide) ?_
  refine lv_iadd hx hb dL_law_844 ?_
  refine va_sld hx hb hX hbl hbA hS (lin 1 (by decide)) dL_law_845 ?_
  refine wcV (As := [.int (xs (nI j + 1).toNatClampNeg)]) (rest := []) ⟨hx, hb, hml, hown, hts⟩ (c_X8_train l X gi gl ga vS vF sN sF (xs (nI j + 1).toNatClampNeg) e1) ⟨w_495, w_496, w_497, w_52, w_498⟩ hd_X8_train rfl rfl ⟨(Nat.le_of_ble_eq_true rfl), (Nat.le_of_ble_eq_true rfl)⟩ hce gPre_blind (va_recv (ci := 4) (q0 := 0) K.1 hPG rfl rfl) (gPre_law K hPG hS) hS K.2.2.2.1 rfl rfl hl.1 (Nat.le_of_ble_eq_true rfl) dL_law_846 (fun H locs hPG hk hS => ?_)
  have hPM := keepM K hPM hk
  refine lv_aload_n hx hb dL_law_849 rfl (lv_at hl 1 rfl) ?_
  refine lv_aload_n hx hb dL_law_850 rfl (lv_at hl 3 rfl) ?_
  refine lv_iload_n hx hb dL_law_851 rfl (lv_at hl 0 rfl) ?_
  refine lv_iconst (v := 1) hx hb dL_law_852 (by decide) ?_
  refine lv_iadd hx hb dL_law_853 ?_
  refine va_sld hx hb hX hbl hbA hS (lin 1 (by decide)) dL_law_854 ?_
  refine wcV (As := [.int (xs (nI j + 1).toNatClampNeg)]) (rest := [.int r]) ⟨hx, hb, hml, hown, hts⟩ (c_X9_train l X mi ml ma mb (xs (nI j + 1).toNatClampNeg) e2) ⟨w_1096, w_1097, w_1098, w_58, w_1099⟩ hd_X9_train rfl rfl ⟨(Nat.le_of_ble_eq_true rfl), (Nat.le_of_ble_eq_true rfl)⟩ hce mPre_blind (va_recv (ci := 5) (q0 := 0) K.1 hPM rfl rfl) (mPre_call hPM K.1 K.2.2.1) hS K.2.2.2.2.1 rfl rfl hl.1 (Nat.le_of_ble_eq_true rfl) dL_law_855 (fun H locs hPM hk hS => ?_)
  have hPG := keepG K hPG hk
  exact lv_icmp_eq (tgt := 1487) hx hb dL_law_858 (by decide) (fun _ => kk _ _ _ _ _ _ _ _ _ _ _ _ _ hPG hPM R' hS) (fun cN => absurd rfl cN)
set_option maxHeartbeats 4000000 in
set_option maxRecDepth 100000 in
/-- keep -/
theorem lc_21 (C0 : lw_At p s m meth c b L xs) (K : LCs s X) {j : Nat} (hj : j + 6 ≤ L) (hL : L ≤ 384) (hce : ce + 0 ≤ room_1.cells ∧ sl + 0 ≤ room_1.slots) (hPG : va_P X.1 vwCl (cG X gi gl ga vS vF sN sF) H) (hPM : va_P X.1 vwCl (cM X mi ml ma mb) H) (R : Rel gi gl ga vS vF sN sF mi ml ma) (hS : va_S (fun q => s.heap.size ≤ q) s.heap H locs) (hl : lv_has ls 4 [(3, .int (nI j)), (2, .ref (xB X 0)), (1, .ref (xA X 0)), (0, .ref b)]) (kk : ∀ (gi : Nat → Int32) (gl : Nat → Int64) (ga : Nat → Nat → Int32) (vS : Nat → Nat → Int32) (vF : Nat → Nat → Nat → Int32) (sN : Nat → Int32) (sF : Nat → Nat → Int32) (mi : Nat → Int32) (ml : Nat → Int64) (ma : Nat → Nat → Int32) (mb : Nat → Nat → Int64) (H : Heap) (locs : List Loc), va_P X.1 vwCl (cG X gi gl ga vS vF sN sF) H → va_P X.1 vwCl (cM X mi ml ma mb) H → Rel gi gl ga vS vF sN sF mi ml ma → va_S (fun q => s.heap.size ≤ q) s.heap H locs → W p l e room_1 s m #[Value.ref b] below meth c H locs ce sl Q (F0 m 1487 ls [])) : W p l e room_1 s m #[Value.ref b] below meth c H locs ce sl Q (F0 m 863 ls []) := by
  obtain ⟨hx, hb, hr, hml, hown, hts0, hX, hbl, hlocks, hgv⟩ := id C0
  have hts := lw_hts hts0
  have hown : s.vm.findClass RL = some m.cls := hown
  have hbA : ¬ (fun q : Nat => s.heap.size ≤ q) b := Nat.not_le.mpr hbl
  have lin : ∀ k, k < 6 → vp_in (nI j + nI k) L := fun k hk => by rw [nI_add]; exact vp_in_nI (by omega) (by omega)
  obtain ⟨r, vS', vF', ma', e1, e2, R'⟩ := st_keep R (xs (nI j + 1).toNatClampNeg)
  refine lv_aload_n hx hb dL_law_863 rfl (lv_at hl 2 rfl) ?_
  refine lv_aload_n hx hb dL_law_864 rfl (lv_at hl 3 rfl) ?_
  refine lv_iload_n hx hb dL_law_865 rfl (lv_at hl 0 rfl) ?_
  refine lv_iconst (v := 1) hx hb dL_law_866 (by decide) ?_
  refine lv_iadd hx hb dL_law_867 ?_
  refine va_sld hx hb hX hbl hbA hS (lin 1 (by decide)) dL_law_868 ?_
  refine wcV (As := [.int (xs (nI j + 1).toNatClampNeg)]) (rest := []) ⟨hx, hb, hml, hown, hts⟩ (c_X8_keep l X gi gl ga vS vF sN sF (xs (nI j + 1).toNatClampNeg) e1) ⟨w_506, w_507, w_508, w_52, w_509⟩ hd_X8_keep rfl rfl ⟨(Nat.le_of_ble_eq_true rfl), (Nat.le_of_ble_eq_true rfl)⟩ hce gPre_blind (va_recv (ci := 4) (q0 := 0) K.1 hPG rfl rfl) (gPre_law K hPG hS) hS K.2.2.2.1 rfl rfl hl.1 (Nat.le_of_ble_eq_true rfl) dL_law_869 (fun H locs hPG hk hS => ?_)
  have hPM := keepM K hPM hk
  refine lv_aload_n hx hb dL_law_872 rfl (lv_at hl 1 rfl) ?_
  refine lv_aload_n hx hb dL_law_873 rfl (lv_at hl 3 rfl) ?_
  refine lv_iload_n hx hb dL_law_874 rfl (lv_at hl 0 rfl) ?_
  refine lv_iconst (v := 1) hx hb dL_law_875 (by decide) ?_
  refine lv_iadd hx hb dL_law_876 ?_
  refine va_sld hx hb hX hbl hbA hS (lin 1 (by decide)) dL_law_877 ?_
  refine wcV (As := [.int (xs (nI j + 1).toNatClampNeg)]) (rest := [.int r]) ⟨hx, hb, hml, hown, hts⟩ (c_X9_keep l X mi ml ma mb (xs (nI j + 1).toNatClampNeg) e2) ⟨w_1111, w_1112, w_1113, w_58, w_1114⟩ hd_X9_keep rfl rfl ⟨(Nat.le_of_ble_eq_true rfl), (Nat.le_of_ble_eq_true rfl)⟩ hce mPre_blind (va_recv (ci := 5) (q0 := 0) K.1 hPM rfl rfl) (mPre_call hPM K.1 K.2.2.1) hS K.2.2.2.2.1 rfl rfl hl.1 (Nat.le_of_ble_eq_true rfl) dL_law_878 (fun H locs hPM hk hS => ?_)
  have hPG := keepG K hPG hk
  exact lv_icmp_eq (tgt := 1487) hx hb dL_law_881 (by decide) (fun _ => kk _ _ _ _ _ _ _ _ _ _ _ _ _ hPG hPM R' hS) (fun cN => absurd rfl cN)
set_option maxHeartbeats 4000000 in
set_option maxRecDepth 100000 in
/-- on -/
theorem lc_22 (C0 : lw_At p s m meth c b L xs) (K : LCs s X) {j : Nat} (hj : j + 6 ≤ L) (hL : L ≤ 384) (hce : ce + 0 ≤ room_1.cells ∧ sl + 0 ≤ room_1.slots) (hPG : va_P X.1 vwCl (cG X gi gl ga vS vF sN sF) H) (hPM : va_P X.1 vwCl (cM X mi ml ma mb) H) (R : Rel gi gl ga vS vF sN sF mi ml ma) (hS : va_S (fun q => s.heap.size ≤ q) s.heap H locs) (hl : lv_has ls 4 [(3, .int (nI j)), (2, .ref (xB X 0)), (1, .ref (xA X 0)), (0, .ref b)]) (kk : ∀ (gi : Nat → Int32) (gl : Nat → Int64) (ga : Nat → Nat → Int32) (vS : Nat → Nat → Int32) (vF : Nat → Nat → Nat → Int32) (sN : Nat → Int32) (sF : Nat → Nat → Int32) (mi : Nat → Int32) (ml : Nat → Int64) (ma : Nat → Nat → Int32) (mb : Nat → Nat → Int64) (H : Heap) (locs : List Loc), va_P X.1 vwCl (cG X gi gl ga vS vF sN sF) H → va_P X.1 vwCl (cM X mi ml ma mb) H → Rel gi gl ga vS vF sN sF mi ml ma → va_S (fun q => s.heap.size ≤ q) s.heap H locs → W p l e room_1 s m #[Value.ref b] below meth c H locs ce sl Q (F0 m 1487 ls [])) : W p l e room_1 s m #[Value.ref b] below meth c H locs ce sl Q (F0 m 886 ls []) := by
  obtain ⟨hx, hb, hr, hml, hown, hts0, hX, hbl, hlocks, hgv⟩ := id C0
  have hts := lw_hts hts0
  have hown : s.vm.findClass RL = some m.cls := hown
  have hbA : ¬ (fun q : Nat => s.heap.size ≤ q) b := Nat.not_le.mpr hbl
  have lin : ∀ k, k < 6 → vp_in (nI j + nI k) L := fun k hk => by rw [nI_add]; exact vp_in_nI (by omega) (by omega)
  obtain ⟨r, gi', ga', vS', vF', mi', ma', e1, e2, R'⟩ := st_on R (xs (nI j + 1).toNatClampNeg)
  refine lv_aload_n hx hb dL_law_886 rfl (lv_at hl 2 rfl) ?_
  refine lv_aload_n hx hb dL_law_887 rfl (lv_at hl 3 rfl) ?_
  refine lv_iload_n hx hb dL_law_888 rfl (lv_at hl 0 rfl) ?_
  refine lv_iconst (v := 1) hx hb dL_law_889 (by decide) ?_
  refine lv_iadd hx hb dL_law_890 ?_
  refine va_sld hx hb hX hbl hbA hS (lin 1 (by decide)) dL_law_891 ?_
  refine wcV (As := [.int (xs (nI j + 1).toNatClampNeg)]) (rest := []) ⟨hx, hb, hml, hown, hts⟩ (c_X8_on l X gi gl ga vS vF sN sF (xs (nI j + 1).toNatClampNeg) e1) ⟨w_517, w_518, w_519, w_52, w_520⟩ hd_X8_on rfl rfl ⟨(Nat.le_of_ble_eq_true rfl), (Nat.le_of_ble_eq_true rfl)⟩ hce gPre_blind (va_recv (ci := 4) (q0 := 0) K.1 hPG rfl rfl) (gPre_law K hPG hS) hS K.2.2.2.1 rfl rfl hl.1 (Nat.le_of_ble_eq_true rfl) dL_law_892 (fun H locs hPG hk hS => ?_)
  have hPM := keepM K hPM hk
  refine lv_aload_n hx hb dL_law_895 rfl (lv_at hl 1 rfl) ?_
  refine lv_aload_n hx hb dL_law_896 rfl (lv_at hl 3 rfl) ?_
  refine lv_iload_n hx hb dL_law_897 rfl (lv_at hl 0 rfl) ?_
  refine lv_iconst (v := 1) hx hb dL_law_898 (by decide) ?_
  refine lv_iadd hx hb dL_law_899 ?_
  refine va_sld hx hb hX hbl hbA hS (lin 1 (by decide)) dL_law_900 ?_
  refine wcV (As := [.int (xs (nI j + 1).toNatClampNeg)]) (rest := [.int r]) ⟨hx, hb, hml, hown, hts⟩ (c_X9_on l X mi ml ma mb (xs (nI j + 1).toNatClampNeg) e2) ⟨w_1116, w_1117, w_1118, w_58, w_1119⟩ hd_X9_on rfl rfl ⟨(Nat.le_of_ble_eq_true rfl), (Nat.le_of_ble_eq_true rfl)⟩ hce mPre_blind (va_recv (ci := 5) (q0 := 0) K.1 hPM rfl rfl) (mPre_call hPM K.1 K.2.2.1) hS K.2.2.2.2.1 rfl rfl hl.1 (Nat.le_of_ble_eq_true rfl) dL_law_901 (fun H locs hPM hk hS => ?_)
  have hPG := keepG K hPG hk
  exact lv_icmp_eq (tgt := 1487) hx hb dL_law_904 (by decide) (fun _ => kk _ _ _ _ _ _ _ _ _ _ _ _ _ hPG hPM R' hS) (fun cN => absurd rfl cN)
set_option maxHeartbeats 4000000 in
set_option maxRecDepth 100000 in
/-- door -/
theorem lc_23 (C0 : lw_At p s m meth c b L xs) (K : LCs s X) {j : Nat} (hj : j + 6 ≤ L) (hL : L ≤ 384) (hce : ce + 0 ≤ room_1.cells ∧ sl + 0 ≤ room_1.slots) (hPG : va_P X.1 vwCl (cG X gi gl ga vS vF sN sF) H) (hPM : va_P X.1 vwCl (cM X mi ml ma mb) H) (R : Rel gi gl ga vS vF sN sF mi ml ma) (hS : va_S (fun q => s.heap.size ≤ q) s.heap H locs) (hl : lv_has ls 4 [(3, .int (nI j)), (2, .ref (xB X 0)), (1, .ref (xA X 0)), (0, .ref b)]) (kk : ∀ (gi : Nat → Int32) (gl : Nat → Int64) (ga : Nat → Nat → Int32) (vS : Nat → Nat → Int32) (vF : Nat → Nat → Nat → Int32) (sN : Nat → Int32) (sF : Nat → Nat → Int32) (mi : Nat → Int32) (ml : Nat → Int64) (ma : Nat → Nat → Int32) (mb : Nat → Nat → Int64) (H : Heap) (locs : List Loc), va_P X.1 vwCl (cG X gi gl ga vS vF sN sF) H → va_P X.1 vwCl (cM X mi ml ma mb) H → Rel gi gl ga vS vF sN sF mi ml ma → va_S (fun q => s.heap.size ≤ q) s.heap H locs → W p l e room_1 s m #[Value.ref b] below meth c H locs ce sl Q (F0 m 1487 ls [])) : W p l e room_1 s m #[Value.ref b] below meth c H locs ce sl Q (F0 m 909 ls []) := by
  obtain ⟨hx, hb, hr, hml, hown, hts0, hX, hbl, hlocks, hgv⟩ := id C0
  have hts := lw_hts hts0
  have hown : s.vm.findClass RL = some m.cls := hown
  have hbA : ¬ (fun q : Nat => s.heap.size ≤ q) b := Nat.not_le.mpr hbl
  have lin : ∀ k, k < 6 → vp_in (nI j + nI k) L := fun k hk => by rw [nI_add]; exact vp_in_nI (by omega) (by omega)
  obtain ⟨r, e1, e2⟩ := st_door R.2.2.2 (xs (nI j + 1).toNatClampNeg)
  refine lv_aload_n hx hb dL_law_909 rfl (lv_at hl 2 rfl) ?_
  refine lv_aload_n hx hb dL_law_910 rfl (lv_at hl 3 rfl) ?_
  refine lv_iload_n hx hb dL_law_911 rfl (lv_at hl 0 rfl) ?_
  refine lv_iconst (v := 1) hx hb dL_law_912 (by decide) ?_
  refine lv_iadd hx hb dL_law_913 ?_
  refine va_sld hx hb hX hbl hbA hS (lin 1 (by decide)) dL_law_914 ?_
  refine rcV (As := [.int (xs (nI j + 1).toNatClampNeg)]) (rest := []) ⟨hx, hb, hml, hown, hts⟩ (c_X8_door l X gi gl ga vS vF sN sF (xs (nI j + 1).toNatClampNeg) e1) ⟨w_521, w_522, w_523, w_52, w_524⟩ hd_X8_door rfl rfl ⟨(Nat.le_of_ble_eq_true rfl), (Nat.le_of_ble_eq_true rfl)⟩ hce gPre_blind (va_recv (ci := 4) (q0 := 0) K.1 hPG rfl rfl) (gPre_law K hPG hS) rfl rfl hl.1 (Nat.le_of_ble_eq_true rfl) dL_law_915 ?_
  refine lv_aload_n hx hb dL_law_918 rfl (lv_at hl 1 rfl) ?_
  refine lv_aload_n hx hb dL_law_919 rfl (lv_at hl 3 rfl) ?_
  refine lv_iload_n hx hb dL_law_920 rfl (lv_at hl 0 rfl) ?_
  refine lv_iconst (v := 1) hx hb dL_law_921 (by decide) ?_
  refine lv_iadd hx hb dL_law_922 ?_
  refine va_sld hx hb hX hbl hbA hS (lin 1 (by decide)) dL_law_923 ?_
  refine rcV (As := [.int (xs (nI j + 1).toNatClampNeg)]) (rest := [.int r]) ⟨hx, hb, hml, hown, hts⟩ (c_X9_door l X mi ml ma mb (xs (nI j + 1).toNatClampNeg) e2) ⟨w_1120, w_1121, w_1122, w_58, w_1123⟩ hd_X9_door rfl rfl ⟨(Nat.le_of_ble_eq_true rfl), (Nat.le_of_ble_eq_true rfl)⟩ hce mPre_blind (va_recv (ci := 5) (q0 := 0) K.1 hPM rfl rfl) (mPre_call hPM K.1 K.2.2.1) rfl rfl hl.1 (Nat.le_of_ble_eq_true rfl) dL_law_924 ?_
  exact lv_icmp_eq (tgt := 1487) hx hb dL_law_927 (by decide) (fun _ => kk _ _ _ _ _ _ _ _ _ _ _ _ _ hPG hPM R hS) (fun cN => absurd rfl cN)
end
