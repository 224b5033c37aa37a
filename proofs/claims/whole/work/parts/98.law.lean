theorem tb48 (x : Int32) : (x.toInt < 0 ∨ 47 < x.toInt) ∨ ∃ k, k < 48 ∧ x = nI k := by
  by_cases h : 0 ≤ x.toInt ∧ x.toInt < (48 : Nat)
  · obtain ⟨k, hk, e⟩ := toI_ex (by omega) h
    exact Or.inr ⟨k, hk, e⟩
  · exact Or.inl (by omega)
section
variable {p : Program} {l : Launch} {e : Env} {s : State} {m : MethodId} {below : List Frame} {meth : Method} {c : Code} {b L : Nat} {xs : Nat → Int32} {H : Heap} {locs : List Loc} {ce sl : Nat} {ls : Array Slot} {X : gX}
variable {gi : Nat → Int32} {gl : Nat → Int64} {ga : Nat → Nat → Int32} {vS : Nat → Nat → Int32} {vF : Nat → Nat → Nat → Int32} {sN : Nat → Int32} {sF : Nat → Nat → Int32} {mi : Nat → Int32} {ml : Nat → Int64} {ma : Nat → Nat → Int32} {mb : Nat → Nat → Int64}
set_option maxHeartbeats 8000000 in
set_option maxRecDepth 100000 in
theorem law_loop (C0 : lw_At p s m meth c b L xs) (K : LCs s X) (hL : L ≤ 384) : ∀ (n j : Nat) (gi : Nat → Int32) (gl : Nat → Int64) (ga : Nat → Nat → Int32) (vS : Nat → Nat → Int32) (vF : Nat → Nat → Nat → Int32) (sN : Nat → Int32) (sF : Nat → Nat → Int32) (mi : Nat → Int32) (ml : Nat → Int64) (ma : Nat → Nat → Int32) (mb : Nat → Nat → Int64) (H : Heap) (locs : List Loc) (ls : Array Slot), j ≤ L → L < j + 6 * n → va_P X.1 vwCl (cG X gi gl ga vS vF sN sF) H → va_P X.1 vwCl (cM X mi ml ma mb) H → Rel gi gl ga vS vF sN sF mi ml ma → va_S (fun q => s.heap.size ≤ q) s.heap H locs → lv_has ls 4 [(3, .int (nI j)), (2, .ref (xB X 0)), (1, .ref (xA X 0)), (0, .ref b)] → W p l e room_1 s m #[Value.ref b] below meth c H locs 107 8251 (lw_Z below #[Value.ref b] s) (F0 m 18 ls []) := by
  obtain ⟨hx, hb, hr, hml, hown, hts0, hX, hbl, hlocks, hgv⟩ := id C0
  have hbA : ¬ (fun q : Nat => s.heap.size ≤ q) b := Nat.not_le.mpr hbl
  intro n
  induction n with
  | zero => intro j _ _ _ _ _ _ _ _ _ _ _ _ _ _ h1 h2; omega
  | succ n ih =>
    intro j gi gl ga vS vF sN sF mi ml ma mb H locs ls h1 h2 hPG hPM R hS hl
    refine lv_iload_n hx hb dL_law_18 rfl (lv_at hl 0 rfl) ?_
    refine lv_aload_n hx hb dL_law_19 rfl (lv_at hl 3 rfl) ?_
    refine va_slen hx hb hX hbl hbA hS dL_law_20 ?_
    refine lv_bipush (v := 6) hx hb dL_law_21 (by decide) ?_
    refine lv_isub hx hb dL_law_23 ?_
    have e6 : (Int32.ofNat L - 6).toInt = (L : Int) - 6 := pk_sub_toInt (a := L) (b := 6) (by omega) (by omega)
    have ej : (nI j).toInt = (j : Int) := toI_nI (by omega)
    refine lv_icmp_gt (tgt := 1493) hx hb dL_law_24 (by decide) (fun _ => ?_) (fun cN => ?_)
    · refine lv_iconst (v := 1) hx hb dL_law_1493 (by decide) ?_
      refine va_forget (fun q hq => hS.2.2 q hq) ?_
      refine W.widen (k := 600000) (n := 7302250) (Nat.le_of_ble_eq_true rfl) (Nat.le_of_ble_eq_true rfl) ?_
      exact lw_ret hx hb hr hlocks dL_law_1494
    · have hj : j + 6 ≤ L := by
        rw [Int32.lt_iff_toInt_lt, e6, ej] at cN
        omega
      have kk : ∀ (gi : Nat → Int32) (gl : Nat → Int64) (ga : Nat → Nat → Int32) (vS : Nat → Nat → Int32) (vF : Nat → Nat → Nat → Int32) (sN : Nat → Int32) (sF : Nat → Nat → Int32) (mi : Nat → Int32) (ml : Nat → Int64) (ma : Nat → Nat → Int32) (mb : Nat → Nat → Int64) (H : Heap) (locs : List Loc), va_P X.1 vwCl (cG X gi gl ga vS vF sN sF) H → va_P X.1 vwCl (cM X mi ml ma mb) H → Rel gi gl ga vS vF sN sF mi ml ma → va_S (fun q => s.heap.size ≤ q) s.heap H locs → W p l e room_1 s m #[Value.ref b] below meth c H locs 107 8251 (lw_Z below #[Value.ref b] s) (F0 m 1487 ls []) := by
        intro gi gl ga vS vF sN sF mi ml ma mb H locs hPG hPM R hS
        refine lv_iinc (v := nI (j + 6)) (lv' := [(3, .int (nI (j + 6))), (2, .ref (xB X 0)), (1, .ref (xA X 0)), (0, .ref b)]) hx hb dL_law_1487 hl (k := 0) rfl (nI_add j 6) (by decide) rfl (fun ls hl => ?_)
        refine lv_goto (tgt := 18) hx hb dL_law_1490 (by decide) ?_
        exact ih (j + 6) gi gl ga vS vF sN sF mi ml ma mb H locs ls hj (by omega) hPG hPM R hS hl
      have hce : 107 + 0 ≤ room_1.cells ∧ 8251 + 0 ≤ room_1.slots := ⟨Nat.le_of_ble_eq_true rfl, Nat.le_of_ble_eq_true rfl⟩
      refine lv_aload_n hx hb dL_law_27 rfl (lv_at hl 3 rfl) ?_
      refine lv_iload_n hx hb dL_law_28 rfl (lv_at hl 0 rfl) ?_
      refine va_sld hx hb hX hbl hbA hS (vp_in_nI (show j < L by omega) (by omega)) dL_law_29 ?_
      refine lv_bipush (v := 63) hx hb dL_law_30 (by decide) ?_
      refine lv_iand hx hb dL_law_32 ?_
      generalize xs (nI j).toNatClampNeg &&& 63 = x
      rcases tb48 x with h | ⟨k, hk, rfl⟩
      · refine lv_tableOut (tgt := 1487) hx hb dL_law_33 h (by decide) ?_
        exact kk gi gl ga vS vF sN sF mi ml ma mb H locs hPG hPM R hS
      · have cs : k = 0 ∨ k = 1 ∨ k = 2 ∨ k = 3 ∨ k = 4 ∨ k = 5 ∨ k = 6 ∨ k = 7 ∨ k = 8 ∨ k = 9 ∨ k = 10 ∨ k = 11 ∨ k = 12 ∨ k = 13 ∨ k = 14 ∨ k = 15 ∨ k = 16 ∨ k = 17 ∨ k = 18 ∨ k = 19 ∨ k = 20 ∨ k = 21 ∨ k = 22 ∨ k = 23 ∨ k = 24 ∨ k = 25 ∨ k = 26 ∨ k = 27 ∨ k = 28 ∨ k = 29 ∨ k = 30 ∨ k = 31 ∨ k = 32 ∨ k = 33 ∨ k = 34 ∨ k = 35 ∨ k = 36 ∨ k = 37 ∨ k = 38 ∨ k = 39 ∨ k = 40 ∨ k = 41 ∨ k = 42 ∨ k = 43 ∨ k = 44 ∨ k = 45 ∨ k = 46 ∨ k = 47 := by omega
        rcases cs with rfl | rfl | rfl | rfl | rfl | rfl | rfl | rfl | rfl | rfl | rfl | rfl | rfl | rfl | rfl | rfl | rfl | rfl | rfl | rfl | rfl | rfl | rfl | rfl | rfl | rfl | rfl | rfl | rfl | rfl | rfl | rfl | rfl | rfl | rfl | rfl | rfl | rfl | rfl | rfl | rfl | rfl | rfl | rfl | rfl | rfl | rfl | rfl
        · exact lv_tableIn (tgt := 240) (off := 207) hx hb dL_law_33 (by decide) (by decide) rfl (by decide) (lc_0 C0 K hj hL hce hPG hPM R hS hl kk)
        · exact lv_tableIn (tgt := 273) (off := 240) hx hb dL_law_33 (by decide) (by decide) rfl (by decide) (lc_1 C0 K hj hL hce hPG hPM R hS hl kk)
        · exact lv_tableIn (tgt := 316) (off := 283) hx hb dL_law_33 (by decide) (by decide) rfl (by decide) (lc_2 C0 K hj hL hce hPG hPM R hS hl kk)
        · exact lv_tableIn (tgt := 349) (off := 316) hx hb dL_law_33 (by decide) (by decide) rfl (by decide) (lc_3 C0 K hj hL hce hPG hPM R hS hl kk)
        · exact lv_tableIn (tgt := 372) (off := 339) hx hb dL_law_33 (by decide) (by decide) rfl (by decide) (lc_4 C0 K hj hL hce hPG hPM R hS hl kk)
        · exact lv_tableIn (tgt := 435) (off := 402) hx hb dL_law_33 (by decide) (by decide) rfl (by decide) (lc_5 C0 K hj hL hce hPG hPM R hS hl kk)
        · exact lv_tableIn (tgt := 458) (off := 425) hx hb dL_law_33 (by decide) (by decide) rfl (by decide) (lc_6 C0 K hj hL hce hPG hPM R hS hl kk)
        · exact lv_tableIn (tgt := 491) (off := 458) hx hb dL_law_33 (by decide) (by decide) rfl (by decide) (lc_7 C0 K hj hL hce hPG hPM R hS hl kk)
        · exact lv_tableIn (tgt := 534) (off := 501) hx hb dL_law_33 (by decide) (by decide) rfl (by decide) (lc_8 C0 K hj hL hce hPG hPM R hS hl kk)
        · exact lv_tableIn (tgt := 557) (off := 524) hx hb dL_law_33 (by decide) (by decide) rfl (by decide) (lc_9 C0 K hj hL hce hPG hPM R hS hl kk)
        · exact lv_tableIn (tgt := 580) (off := 547) hx hb dL_law_33 (by decide) (by decide) rfl (by decide) (lc_10 C0 K hj hL hce hPG hPM R hS hl kk)
        · exact lv_tableIn (tgt := 613) (off := 580) hx hb dL_law_33 (by decide) (by decide) rfl (by decide) (lc_11 C0 K hj hL hce hPG hPM R hS hl kk)
        · exact lv_tableIn (tgt := 646) (off := 613) hx hb dL_law_33 (by decide) (by decide) rfl (by decide) (lc_12 C0 K hj hL hce hPG hPM R hS hl kk)
        · exact lv_tableIn (tgt := 679) (off := 646) hx hb dL_law_33 (by decide) (by decide) rfl (by decide) (lc_13 C0 K hj hL hce hPG hPM R hS hl kk)
        · exact lv_tableIn (tgt := 722) (off := 689) hx hb dL_law_33 (by decide) (by decide) rfl (by decide) (lc_14 C0 K hj hL hce hPG hPM R hS hl kk)
        · exact lv_tableIn (tgt := 745) (off := 712) hx hb dL_law_33 (by decide) (by decide) rfl (by decide) (lc_15 C0 K hj hL hce hPG hPM R hS hl kk)
        · exact lv_tableIn (tgt := 768) (off := 735) hx hb dL_law_33 (by decide) (by decide) rfl (by decide) (lc_16 C0 K hj hL hce hPG hPM R hS hl kk)
        · exact lv_tableIn (tgt := 791) (off := 758) hx hb dL_law_33 (by decide) (by decide) rfl (by decide) (lc_17 C0 K hj hL hce hPG hPM R hS hl kk)
        · exact lv_tableIn (tgt := 804) (off := 771) hx hb dL_law_33 (by decide) (by decide) rfl (by decide) (lc_18 C0 K hj hL hce hPG hPM R hS hl kk)
        · exact lv_tableIn (tgt := 817) (off := 784) hx hb dL_law_33 (by decide) (by decide) rfl (by decide) (lc_19 C0 K hj hL hce hPG hPM R hS hl kk)
        · exact lv_tableIn (tgt := 840) (off := 807) hx hb dL_law_33 (by decide) (by decide) rfl (by decide) (lc_20 C0 K hj hL hce hPG hPM R hS hl kk)
        · exact lv_tableIn (tgt := 863) (off := 830) hx hb dL_law_33 (by decide) (by decide) rfl (by decide) (lc_21 C0 K hj hL hce hPG hPM R hS hl kk)
        · exact lv_tableIn (tgt := 886) (off := 853) hx hb dL_law_33 (by decide) (by decide) rfl (by decide) (lc_22 C0 K hj hL hce hPG hPM R hS hl kk)
        · exact lv_tableIn (tgt := 909) (off := 876) hx hb dL_law_33 (by decide) (by decide) rfl (by decide) (lc_23 C0 K hj hL hce hPG hPM R hS hl kk)
        · exact lv_tableIn (tgt := 932) (off := 899) hx hb dL_law_33 (by decide) (by decide) rfl (by decide) (lc_24 C0 K hj hL hce hPG hPM R hS hl kk)
        · exact lv_tableIn (tgt := 955) (off := 922) hx hb dL_law_33 (by decide) (by decide) rfl (by decide) (lc_25 C0 K hj hL hce hPG hPM R hS hl kk)
        · exact lv_tableIn (tgt := 988) (off := 955) hx hb dL_law_33 (by decide) (by decide) rfl (by decide) (lc_26 C0 K hj hL hce hPG hPM R hS hl kk)
        · exact lv_tableIn (tgt := 1021) (off := 988) hx hb dL_law_33 (by decide) (by decide) rfl (by decide) (lc_27 C0 K hj hL hce hPG hPM R hS hl kk)
        · exact lv_tableIn (tgt := 1054) (off := 1021) hx hb dL_law_33 (by decide) (by decide) rfl (by decide) (lc_28 C0 K hj hL hce hPG hPM R hS hl kk)
        · exact lv_tableIn (tgt := 1077) (off := 1044) hx hb dL_law_33 (by decide) (by decide) rfl (by decide) (lc_29 C0 K hj hL hce hPG hPM R hS hl kk)
        · exact lv_tableIn (tgt := 1090) (off := 1057) hx hb dL_law_33 (by decide) (by decide) rfl (by decide) (lc_30 C0 K hj hL hce hPG hPM R hS hl kk)
        · exact lv_tableIn (tgt := 1103) (off := 1070) hx hb dL_law_33 (by decide) (by decide) rfl (by decide) (lc_31 C0 K hj hL hce hPG hPM R hS hl kk)
        · exact lv_tableIn (tgt := 1136) (off := 1103) hx hb dL_law_33 (by decide) (by decide) rfl (by decide) (lc_32 C0 K hj hL hce hPG hPM R hS hl kk)
        · exact lv_tableIn (tgt := 1149) (off := 1116) hx hb dL_law_33 (by decide) (by decide) rfl (by decide) (lc_33 C0 K hj hL hce hPG hPM R hS hl kk)
        · exact lv_tableIn (tgt := 1162) (off := 1129) hx hb dL_law_33 (by decide) (by decide) rfl (by decide) (lc_34 C0 K hj hL hce hPG hPM R hS hl kk)
        · exact lv_tableIn (tgt := 1195) (off := 1162) hx hb dL_law_33 (by decide) (by decide) rfl (by decide) (lc_35 C0 K hj hL hce hPG hPM R hS hl kk)
        · exact lv_tableIn (tgt := 1228) (off := 1195) hx hb dL_law_33 (by decide) (by decide) rfl (by decide) (lc_36 C0 K hj hL hce hPG hPM R hS hl kk)
        · exact lv_tableIn (tgt := 1261) (off := 1228) hx hb dL_law_33 (by decide) (by decide) rfl (by decide) (lc_37 C0 K hj hL hce hPG hPM R hS hl kk)
        · exact lv_tableIn (tgt := 1294) (off := 1261) hx hb dL_law_33 (by decide) (by decide) rfl (by decide) (lc_38 C0 K hj hL hce hPG hPM R hS hl kk)
        · exact lv_tableIn (tgt := 1317) (off := 1284) hx hb dL_law_33 (by decide) (by decide) rfl (by decide) (lc_39 C0 K hj hL hce hPG hPM R hS hl kk)
        · exact lv_tableIn (tgt := 1340) (off := 1307) hx hb dL_law_33 (by decide) (by decide) rfl (by decide) (lc_40 C0 K hj hL hce hPG hPM R hS hl kk)
        · exact lv_tableIn (tgt := 1373) (off := 1340) hx hb dL_law_33 (by decide) (by decide) rfl (by decide) (lc_41 C0 K hj hL hce hPG hPM R hS hl kk)
        · exact lv_tableIn (tgt := 1386) (off := 1353) hx hb dL_law_33 (by decide) (by decide) rfl (by decide) (lc_42 C0 K hj hL hce hPG hPM R hS hl kk)
        · exact lv_tableIn (tgt := 1400) (off := 1367) hx hb dL_law_33 (by decide) (by decide) rfl (by decide) (lc_43 C0 K hj hL hce hPG hPM R hS hl kk)
        · exact lv_tableIn (tgt := 1414) (off := 1381) hx hb dL_law_33 (by decide) (by decide) rfl (by decide) (lc_44 C0 K hj hL hce hPG hPM R hS hl kk)
        · exact lv_tableIn (tgt := 1437) (off := 1404) hx hb dL_law_33 (by decide) (by decide) rfl (by decide) (lc_45 C0 K hj hL hce hPG hPM R hS hl kk)
        · exact lv_tableIn (tgt := 1450) (off := 1417) hx hb dL_law_33 (by decide) (by decide) rfl (by decide) (lc_46 C0 K hj hL hce hPG hPM R hS hl kk)
        · exact lv_tableIn (tgt := 1473) (off := 1440) hx hb dL_law_33 (by decide) (by decide) rfl (by decide) (lc_47 C0 K hj hL hce hPG hPM R hS hl kk)
end
