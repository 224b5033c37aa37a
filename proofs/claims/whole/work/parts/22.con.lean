set_option maxRecDepth 100000 in
set_option maxHeartbeats 4000000 in
theorem c_X4_hasRoom (l : Launch) (X : gX) (gi : Nat → Int32) (gl : Nat → Int64) (ga : Nat → Nat → Int32) (vS : Nat → Nat → Int32) (vF : Nat → Nat → Nat → Int32) (sN : Nat → Int32) (sF : Nat → Nat → Int32) (a1 : Int32) (a2 : Int32) (a3 : Int32) {o0 : Int32} (h : X4_hasRoom vS vF a1 a2 a3 = some o0) : Met l yX4_hasRoom (Cond.code yX4_hasRoom cX4_hasRoom 4 (some .boolean) :: gT) { frames := 3, cells := 0, slots := 0, locals := 66 } (va_Pc [.ref (xAV X (0) 0), .int a1, .int a2, .int a3] (gPre X gi gl ga vS vF sN sF)) (k2_QcV (.int o0)) 0 0 (fun _ => False) := by
  refine Met.ofW (cc := cX4_hasRoom) (maxL := 4) (ret := (some .boolean)) (by decide) rfl ?_
  intro p e s m args below meth c s₁ B hml hv
  obtain ⟨rfl, hP, hK, hN, hZ⟩ := hv
  have hx := B.exec
  have hb := B.bytes
  have hr := B.returns
  have hts := atoms_spec (ws := (Cond.code yX4_hasRoom cX4_hasRoom 4 (some .boolean) :: gT)) B.pre
  have hT : ∀ w ∈ gT, w.before _ s = true := fun w hw => hts w (List.mem_cons_of_mem _ hw)
  have hown : s.vm.findClass RX4 = some m.cls := findClass_of_methodNamed B.named
  have hlocks := B.notSynchronized
  have hS : va_S (gA X) s.heap s.heap [] := va_S.rf
  have hl := lv_entry ([.ref (xAV X (0) 0), .int a1, .int a2, .int a3]) (n := 4) (Nat.le_of_ble_eq_true rfl)
  rw [lg_entry_eq]
  generalize (lg_sl ([.ref (xAV X (0) 0), .int a1, .int a2, .int a3]) ++ List.replicate (4 - (lg_sl ([.ref (xAV X (0) 0), .int a1, .int a2, .int a3])).length) Slot.unset).toArray = ls at hl ⊢
  have hl : lv_has ls 4 [(0, .ref (xAV X (0) 0)), (1, .int a1), (2, .int a2), (3, .int a3)] := hl
  rw [X4_hasRoom] at h
  refine lv_aload_n hx hb dX4_hasRoom_0 rfl (lv_at hl 0 rfl) ?_
  refine lv_iload_n hx hb dX4_hasRoom_1 rfl (lv_at hl 1 rfl) ?_
  obtain ⟨r2, hc2, h⟩ := Option.bind_eq_some_iff.mp h
  refine rcV (As := [.int a1]) (rest := []) ⟨hx, hb, hml, hown, hts⟩ (c_X7_hangers l X gi gl ga vS vF sN sF a1 hc2) ⟨w_531, w_400, w_401, w_53, w_402⟩ hd_X7_hangers rfl rfl ⟨(Nat.le_of_ble_eq_true rfl), (Nat.le_of_ble_eq_true rfl)⟩ ⟨Nat.zero_le _, Nat.zero_le _⟩ gPre_blind (va_recv hK hP (ci := 3) rfl (cG_v (by decide : 0 < 4))) (gPre_call hP hK hN hZ hS) rfl rfl hl.1 (Nat.le_of_ble_eq_true rfl) dX4_hasRoom_2 ?_
  obtain ⟨r5, hc5, h⟩ := Option.bind_eq_some_iff.mp h
  refine rcS (As := [.int r2]) (rest := []) ⟨hx, hb, hml, hown, hts⟩ (c_J6_bitCount_0f7a4 l r2 hc5) ⟨w_532, w_357, w_63, w_358⟩ hd_J6_bitCount_0f7a4 rfl rfl ⟨(Nat.le_of_ble_eq_true rfl), (Nat.le_of_ble_eq_true rfl)⟩ ⟨Nat.zero_le _, Nat.zero_le _⟩ (fun _ _ _ _ h => h) (fun _ _ _ => trivial) rfl rfl hl.1 (Nat.le_of_ble_eq_true rfl) dX4_hasRoom_5 ?_
  refine lv_iload_n hx hb dX4_hasRoom_8 rfl (lv_at hl 2 rfl) ?_
  refine lv_icmp_ge (tgt := 25) hx hb dX4_hasRoom_9 (by decide) (fun c9 => ?_) (fun c9 => ?_)
  · replace h := if_t c9 h
    refine lv_iconst (v := 0) hx hb dX4_hasRoom_25 (by decide) ?_
    cases h
    exact W.zret (ty := .boolean) hx hb hr rfl (fun t ht _ => ⟨rfl, ht⟩) (fun _ hq => by cases hq) dX4_hasRoom_26
  · replace h := if_f c9 h
    refine lv_aload_n hx hb dX4_hasRoom_12 rfl (lv_at hl 0 rfl) ?_
    refine lv_iload_n hx hb dX4_hasRoom_13 rfl (lv_at hl 1 rfl) ?_
    obtain ⟨r14, hc14, h⟩ := Option.bind_eq_some_iff.mp h
    refine rcV (As := [.int a1]) (rest := []) ⟨hx, hb, hml, hown, hts⟩ (c_X7_depth l X gi gl ga vS vF sN sF a1 hc14) ⟨w_540, w_345, w_346, w_53, w_347⟩ hd_X7_depth rfl rfl ⟨(Nat.le_of_ble_eq_true rfl), (Nat.le_of_ble_eq_true rfl)⟩ ⟨Nat.zero_le _, Nat.zero_le _⟩ gPre_blind (va_recv hK hP (ci := 3) rfl (cG_v (by decide : 0 < 4))) (gPre_call hP hK hN hZ hS) rfl rfl hl.1 (Nat.le_of_ble_eq_true rfl) dX4_hasRoom_14 ?_
    refine lv_iload_n hx hb dX4_hasRoom_17 rfl (lv_at hl 3 rfl) ?_
    refine lv_icmp_ge (tgt := 25) hx hb dX4_hasRoom_18 (by decide) (fun c18 => ?_) (fun c18 => ?_)
    · replace h := if_t c18 h
      refine lv_iconst (v := 0) hx hb dX4_hasRoom_25 (by decide) ?_
      cases h
      exact W.zret (ty := .boolean) hx hb hr rfl (fun t ht _ => ⟨rfl, ht⟩) (fun _ hq => by cases hq) dX4_hasRoom_26
    · replace h := if_f c18 h
      refine lv_iconst (v := 1) hx hb dX4_hasRoom_21 (by decide) ?_
      refine lv_goto (tgt := 26) hx hb dX4_hasRoom_22 (by decide) ?_
      cases h
      exact W.zret (ty := .boolean) hx hb hr rfl (fun t ht _ => ⟨rfl, ht⟩) (fun _ hq => by cases hq) dX4_hasRoom_26
set_option maxRecDepth 100000 in
set_option maxHeartbeats 4000000 in
theorem c_X4_places (l : Launch) (X : gX) (gi : Nat → Int32) (gl : Nat → Int64) (ga : Nat → Nat → Int32) (vS : Nat → Nat → Int32) (vF : Nat → Nat → Nat → Int32) (sN : Nat → Int32) (sF : Nat → Nat → Int32) (a1 : Int32) (a2 : Int32) {o0 : Int32} (h : X4_places vS vF a1 a2 = some o0) : Met l yX4_places (Cond.code yX4_places cX4_places 5 (some .int) :: gT) { frames := 5, cells := 0, slots := 0, locals := 113 } (va_Pc [.ref (xAV X (0) 0), .int a1, .int a2] (gPre X gi gl ga vS vF sN sF)) (k2_QcV (.int o0)) 0 0 (fun _ => False) := by
  refine Met.ofW (cc := cX4_places) (maxL := 5) (ret := (some .int)) (by decide) rfl ?_
  intro p e s m args below meth c s₁ B hml hv
  obtain ⟨rfl, hP, hK, hN, hZ⟩ := hv
  have hx := B.exec
  have hb := B.bytes
  have hr := B.returns
  have hts := atoms_spec (ws := (Cond.code yX4_places cX4_places 5 (some .int) :: gT)) B.pre
  have hT : ∀ w ∈ gT, w.before _ s = true := fun w hw => hts w (List.mem_cons_of_mem _ hw)
  have hown : s.vm.findClass RX4 = some m.cls := findClass_of_methodNamed B.named
  have hlocks := B.notSynchronized
  have hS : va_S (gA X) s.heap s.heap [] := va_S.rf
  have hl := lv_entry ([.ref (xAV X (0) 0), .int a1, .int a2]) (n := 5) (Nat.le_of_ble_eq_true rfl)
  rw [lg_entry_eq]
  generalize (lg_sl ([.ref (xAV X (0) 0), .int a1, .int a2]) ++ List.replicate (5 - (lg_sl ([.ref (xAV X (0) 0), .int a1, .int a2])).length) Slot.unset).toArray = ls at hl ⊢
  have hl : lv_has ls 5 [(0, .ref (xAV X (0) 0)), (1, .int a1), (2, .int a2)] := hl
  have hL35 : ∀ (n35 : Nat) (v1 : Int32) (v2 : Int32) (v3 : Int32) (v4 : Int32) (ls : Array Slot), lv_has ls 5 [(0, .ref (xAV X (0) 0)), (1, .int v1), (2, .int v2), (3, .int v3), (4, .int v4)] → X4_places_35 vS vF n35 v1 v2 v3 v4 = some o0 → W p l e (headSpec (Cond.code yX4_places cX4_places 5 (some .int) :: gT) { frames := 5, cells := 0, slots := 0, locals := 113 }).room s m [.ref (xAV X (0) 0), .int a1, .int a2].toArray below meth c s.heap [] 0 0 (MQ below (k2_QcV (.int o0)) [.ref (xAV X (0) 0), .int a1, .int a2].toArray s 0 0 (fun _ => False)) (F0 m 35 ls []) := by
    intro n35
    induction n35 with
    | zero =>
      intro v1 v2 v3 v4 ls hl h
      rw [X4_places_35] at h
      cases h
    | succ n35 ih35 =>
      intro v1 v2 v3 v4 ls hl h
      rw [X4_places_35] at h
      refine lv_iload hx hb dX4_places_35 (lv_at hl 4 rfl) ?_
      refine lv_aload_n hx hb dX4_places_37 rfl (lv_at hl 0 rfl) ?_
      refine rg_V_people (q := (0)) hx hb hT hown hK hP (by decide : 0 < 4) w_84 dX4_places_38 ?_
      refine lv_icmp_ge (tgt := 73) hx hb dX4_places_41 (by decide) (fun c41 => ?_) (fun c41 => ?_)
      · replace h := if_t c41 h
        refine lv_iload_n hx hb dX4_places_73 rfl (lv_at hl 3 rfl) ?_
        cases h
        exact W.iret hx hb hr (fun t ht _ => ⟨rfl, ht⟩) (fun _ hq => by cases hq) dX4_places_74
      · replace h := if_f c41 h
        refine lv_aload_n hx hb dX4_places_44 rfl (lv_at hl 0 rfl) ?_
        refine lv_iload hx hb dX4_places_45 (lv_at hl 4 rfl) ?_
        obtain ⟨r47, hc47, h⟩ := Option.bind_eq_some_iff.mp h
        refine rcV (As := [.int v4]) (rest := []) ⟨hx, hb, hml, hown, hts⟩ (c_X7_isStuck l X gi gl ga vS vF sN sF v4 hc47) ⟨w_552, w_353, w_354, w_53, w_355⟩ hd_X7_isStuck rfl rfl ⟨(Nat.le_of_ble_eq_true rfl), (Nat.le_of_ble_eq_true rfl)⟩ ⟨Nat.zero_le _, Nat.zero_le _⟩ gPre_blind (va_recv hK hP (ci := 3) rfl (cG_v (by decide : 0 < 4))) (gPre_call hP hK hN hZ hS) rfl rfl hl.1 (Nat.le_of_ble_eq_true rfl) dX4_places_47 ?_
        refine lv_if_eq (tgt := 67) hx hb dX4_places_50 (by decide) (fun c50 => ?_) (fun c50 => ?_)
        · replace h := if_t c50 h
          refine lv_iinc (v := (v4 + (1 : Int32))) (lv' := [(4, .int (v4 + (1 : Int32))), (0, .ref (xAV X (0) 0)), (1, .int v1), (2, .int v2), (3, .int v3)]) hx hb dX4_places_67 hl (k := 4) rfl rfl (by decide) rfl (fun ls hl => ?_)
          refine lv_goto (tgt := 35) hx hb dX4_places_70 (by decide) ?_
          exact ih35 v1 v2 v3 (v4 + (1 : Int32)) ls (lv_sub hl [1, 2, 3, 4, 0] rfl) h
        · replace h := if_f c50 h
          refine lv_aload_n hx hb dX4_places_53 rfl (lv_at hl 0 rfl) ?_
          refine lv_iload hx hb dX4_places_54 (lv_at hl 4 rfl) ?_
          refine lv_iload_n hx hb dX4_places_56 rfl (lv_at hl 1 rfl) ?_
          refine lv_iload_n hx hb dX4_places_57 rfl (lv_at hl 2 rfl) ?_
          obtain ⟨r58, hc58, h⟩ := Option.bind_eq_some_iff.mp h
          refine rcS (As := [.ref (xAV X (0) 0), .int v4, .int v1, .int v2]) (rest := []) ⟨hx, hb, hml, hown, hts⟩ (c_X4_hasRoom l X gi gl ga vS vF sN sF v4 v1 v2 hc58) ⟨w_566, w_567, w_64, w_568⟩ hd_X4_hasRoom rfl rfl ⟨(Nat.le_of_ble_eq_true rfl), (Nat.le_of_ble_eq_true rfl)⟩ ⟨Nat.zero_le _, Nat.zero_le _⟩ gPre_blind (gPre_call hP hK hN hZ hS) rfl rfl hl.1 (Nat.le_of_ble_eq_true rfl) dX4_places_58 ?_
          refine lv_if_eq (tgt := 67) hx hb dX4_places_61 (by decide) (fun c61 => ?_) (fun c61 => ?_)
          · replace h := if_t c61 h
            refine lv_iinc (v := (v4 + (1 : Int32))) (lv' := [(4, .int (v4 + (1 : Int32))), (0, .ref (xAV X (0) 0)), (1, .int v1), (2, .int v2), (3, .int v3)]) hx hb dX4_places_67 hl (k := 4) rfl rfl (by decide) rfl (fun ls hl => ?_)
            refine lv_goto (tgt := 35) hx hb dX4_places_70 (by decide) ?_
            exact ih35 v1 v2 v3 (v4 + (1 : Int32)) ls (lv_sub hl [1, 2, 3, 4, 0] rfl) h
          · replace h := if_f c61 h
            refine lv_iinc (v := (v3 + (1 : Int32))) (lv' := [(3, .int (v3 + (1 : Int32))), (0, .ref (xAV X (0) 0)), (1, .int v1), (2, .int v2), (4, .int v4)]) hx hb dX4_places_64 hl (k := 3) rfl rfl (by decide) rfl (fun ls hl => ?_)
            refine lv_iinc (v := (v4 + (1 : Int32))) (lv' := [(4, .int (v4 + (1 : Int32))), (3, .int (v3 + (1 : Int32))), (0, .ref (xAV X (0) 0)), (1, .int v1), (2, .int v2)]) hx hb dX4_places_67 hl (k := 4) rfl rfl (by decide) rfl (fun ls hl => ?_)
            refine lv_goto (tgt := 35) hx hb dX4_places_70 (by decide) ?_
            exact ih35 v1 v2 (v3 + (1 : Int32)) (v4 + (1 : Int32)) ls (lv_sub hl [2, 3, 4, 1, 0] rfl) h
  rw [X4_places] at h
  refine lv_aload_n hx hb dX4_places_0 rfl (lv_at hl 0 rfl) ?_
  refine lv_aload_n hx hb dX4_places_1 rfl (lv_at hl 0 rfl) ?_
  obtain ⟨r2, hc2, h⟩ := Option.bind_eq_some_iff.mp h
  refine rcV (As := []) (rest := [.ref (xAV X (0) 0)]) ⟨hx, hb, hml, hown, hts⟩ (c_X7_stuckSet l X gi gl ga vS vF sN sF hc2) ⟨w_548, w_391, w_392, w_53, w_393⟩ hd_X7_stuckSet rfl rfl ⟨(Nat.le_of_ble_eq_true rfl), (Nat.le_of_ble_eq_true rfl)⟩ ⟨Nat.zero_le _, Nat.zero_le _⟩ gPre_blind (va_recv hK hP (ci := 3) rfl (cG_v (by decide : 0 < 4))) (gPre_call hP hK hN hZ hS) rfl rfl hl.1 (Nat.le_of_ble_eq_true rfl) dX4_places_2 ?_
  refine lv_iload_n hx hb dX4_places_5 rfl (lv_at hl 1 rfl) ?_
  refine lv_iload_n hx hb dX4_places_6 rfl (lv_at hl 2 rfl) ?_
  obtain ⟨r7, hc7, h⟩ := Option.bind_eq_some_iff.mp h
  refine rcS (As := [.ref (xAV X (0) 0), .int r2, .int a1, .int a2]) (rest := []) ⟨hx, hb, hml, hown, hts⟩ (c_X4_passes l X gi gl ga vS vF sN sF r2 a1 a2 hc7) ⟨w_554, w_555, w_64, w_556⟩ hd_X4_passes rfl rfl ⟨(Nat.le_of_ble_eq_true rfl), (Nat.le_of_ble_eq_true rfl)⟩ ⟨Nat.zero_le _, Nat.zero_le _⟩ gPre_blind (gPre_call hP hK hN hZ hS) rfl rfl hl.1 (Nat.le_of_ble_eq_true rfl) dX4_places_7 ?_
  refine lv_if_ne (tgt := 15) hx hb dX4_places_10 (by decide) (fun c10 => ?_) (fun c10 => ?_)
  · replace h := if_f c10 h
    refine lv_aload_n hx hb dX4_places_15 rfl (lv_at hl 0 rfl) ?_
    refine lv_bipush (v := 9) hx hb dX4_places_16 (by decide) ?_
    refine lv_iload_n hx hb dX4_places_18 rfl (lv_at hl 1 rfl) ?_
    refine lv_iload_n hx hb dX4_places_19 rfl (lv_at hl 2 rfl) ?_
    obtain ⟨r20, hc20, h⟩ := Option.bind_eq_some_iff.mp h
    refine rcS (As := [.ref (xAV X (0) 0), .int (9 : Int32), .int a1, .int a2]) (rest := []) ⟨hx, hb, hml, hown, hts⟩ (c_X4_hasRoom l X gi gl ga vS vF sN sF (9 : Int32) a1 a2 hc20) ⟨w_566, w_567, w_64, w_568⟩ hd_X4_hasRoom rfl rfl ⟨(Nat.le_of_ble_eq_true rfl), (Nat.le_of_ble_eq_true rfl)⟩ ⟨Nat.zero_le _, Nat.zero_le _⟩ gPre_blind (gPre_call hP hK hN hZ hS) rfl rfl hl.1 (Nat.le_of_ble_eq_true rfl) dX4_places_20 ?_
    refine lv_if_eq (tgt := 30) hx hb dX4_places_23 (by decide) (fun c23 => ?_) (fun c23 => ?_)
    · replace h := if_t c23 h
      refine lv_iconst (v := 0) hx hb dX4_places_30 (by decide) ?_
      refine lv_istore_n (lv' := [(3, .int (0 : Int32)), (0, .ref (xAV X (0) 0)), (1, .int a1), (2, .int a2)]) hx hb dX4_places_31 rfl hl (by decide) rfl (fun ls hl => ?_)
      refine lv_iconst (v := 0) hx hb dX4_places_32 (by decide) ?_
      refine lv_istore (lv' := [(4, .int (0 : Int32)), (3, .int (0 : Int32)), (0, .ref (xAV X (0) 0)), (1, .int a1), (2, .int a2)]) hx hb dX4_places_33 hl (by decide) rfl (fun ls hl => ?_)
      exact hL35 500 a1 a2 (0 : Int32) (0 : Int32) ls (lv_sub hl [2, 3, 4, 1, 0] rfl) h
    · replace h := if_f c23 h
      refine lv_iconst (v := 1) hx hb dX4_places_26 (by decide) ?_
      refine lv_goto (tgt := 31) hx hb dX4_places_27 (by decide) ?_
      refine lv_istore_n (lv' := [(3, .int (1 : Int32)), (0, .ref (xAV X (0) 0)), (1, .int a1), (2, .int a2)]) hx hb dX4_places_31 rfl hl (by decide) rfl (fun ls hl => ?_)
      refine lv_iconst (v := 0) hx hb dX4_places_32 (by decide) ?_
      refine lv_istore (lv' := [(4, .int (0 : Int32)), (3, .int (1 : Int32)), (0, .ref (xAV X (0) 0)), (1, .int a1), (2, .int a2)]) hx hb dX4_places_33 hl (by decide) rfl (fun ls hl => ?_)
      exact hL35 500 a1 a2 (1 : Int32) (0 : Int32) ls (lv_sub hl [2, 3, 4, 1, 0] rfl) h
  · replace h := if_t c10 h
    refine lv_iconst (v := 0) hx hb dX4_places_13 (by decide) ?_
    cases h
    exact W.iret hx hb hr (fun t ht _ => ⟨rfl, ht⟩) (fun _ hq => by cases hq) dX4_places_14
set_option maxRecDepth 100000 in
set_option maxHeartbeats 4000000 in
theorem c_X0_way (l : Launch) (X : gX) (gi : Nat → Int32) (gl : Nat → Int64) (ga : Nat → Nat → Int32) (vS : Nat → Nat → Int32) (vF : Nat → Nat → Nat → Int32) (sN : Nat → Int32) (sF : Nat → Nat → Int32) (a1 : Int32) (a2 : Int32) {o0 : Int32} (h : X0_way vS vF a1 a2 = some o0) : Met l yX0_way (Cond.code yX0_way cX0_way 7 (some .int) :: gT) { frames := 2, cells := 0, slots := 0, locals := 45 } (va_Pc [.ref (xAV X (0) 0), .int a1, .int a2] (gPre X gi gl ga vS vF sN sF)) (k2_QcV (.int o0)) 0 0 (fun _ => False) := by
  refine Met.ofW (cc := cX0_way) (maxL := 7) (ret := (some .int)) (by decide) rfl ?_
  intro p e s m args below meth c s₁ B hml hv
  obtain ⟨rfl, hP, hK, hN, hZ⟩ := hv
  have hx := B.exec
  have hb := B.bytes
  have hr := B.returns
  have hts := atoms_spec (ws := (Cond.code yX0_way cX0_way 7 (some .int) :: gT)) B.pre
  have hT : ∀ w ∈ gT, w.before _ s = true := fun w hw => hts w (List.mem_cons_of_mem _ hw)
  have hown : s.vm.findClass RX0 = some m.cls := findClass_of_methodNamed B.named
  have hlocks := B.notSynchronized
  have hS : va_S (gA X) s.heap s.heap [] := va_S.rf
  have hl := lv_entry ([.ref (xAV X (0) 0), .int a1, .int a2]) (n := 7) (Nat.le_of_ble_eq_true rfl)
  rw [lg_entry_eq]
  generalize (lg_sl ([.ref (xAV X (0) 0), .int a1, .int a2]) ++ List.replicate (7 - (lg_sl ([.ref (xAV X (0) 0), .int a1, .int a2])).length) Slot.unset).toArray = ls at hl ⊢
  have hl : lv_has ls 7 [(0, .ref (xAV X (0) 0)), (1, .int a1), (2, .int a2)] := hl
  have hL22 : ∀ (n22 : Nat) (v3 : Int32) (v4 : Int32) (v5 : Int32) (v6 : Int32) (ls : Array Slot), lv_has ls 7 [(0, .ref (xAV X (0) 0)), (3, .int v3), (4, .int v4), (5, .int v5), (6, .int v6)] → X0_way_22 vS vF n22 v3 v4 v5 v6 = some o0 → W p l e (headSpec (Cond.code yX0_way cX0_way 7 (some .int) :: gT) { frames := 2, cells := 0, slots := 0, locals := 45 }).room s m [.ref (xAV X (0) 0), .int a1, .int a2].toArray below meth c s.heap [] 0 0 (MQ below (k2_QcV (.int o0)) [.ref (xAV X (0) 0), .int a1, .int a2].toArray s 0 0 (fun _ => False)) (F0 m 22 ls []) := by
    intro n22
    induction n22 with
    | zero =>
      intro v3 v4 v5 v6 ls hl h
      rw [X0_way_22] at h
      cases h
    | succ n22 ih22 =>
      intro v3 v4 v5 v6 ls hl h
      rw [X0_way_22] at h
      refine lv_iload hx hb dX0_way_22 (lv_at hl 4 rfl) ?_
      refine lv_aload_n hx hb dX0_way_24 rfl (lv_at hl 0 rfl) ?_
      refine rg_V_people (q := (0)) hx hb hT hown hK hP (by decide : 0 < 4) w_83 dX0_way_25 ?_
      refine lv_icmp_ge (tgt := 63) hx hb dX0_way_28 (by decide) (fun c28 => ?_) (fun c28 => ?_)
      · replace h := if_t c28 h
        refine lv_iconst (v := 0) hx hb dX0_way_63 (by decide) ?_
        cases h
        exact W.iret hx hb hr (fun t ht _ => ⟨rfl, ht⟩) (fun _ hq => by cases hq) dX0_way_64
      · replace h := if_f c28 h
        refine lv_iload hx hb dX0_way_31 (lv_at hl 3 rfl) ?_
        refine lv_if_eq (tgt := 57) hx hb dX0_way_33 (by decide) (fun c33 => ?_) (fun c33 => ?_)
        · replace h := if_t c33 h
          refine lv_iinc (v := (v6 + (1 : Int32))) (lv' := [(6, .int (v6 + (1 : Int32))), (0, .ref (xAV X (0) 0)), (3, .int v3), (4, .int v4), (5, .int v5)]) hx hb dX0_way_57 hl (k := 4) rfl rfl (by decide) rfl (fun ls hl => ?_)
          refine lv_goto (tgt := 22) hx hb dX0_way_60 (by decide) ?_
          exact ih22 v3 v4 v5 (v6 + (1 : Int32)) ls (lv_sub hl [1, 2, 3, 4, 0] rfl) h
        · replace h := if_f c33 h
          refine lv_aload_n hx hb dX0_way_36 rfl (lv_at hl 0 rfl) ?_
          refine lv_iload hx hb dX0_way_37 (lv_at hl 4 rfl) ?_
          obtain ⟨r39, hc39, h⟩ := Option.bind_eq_some_iff.mp h
          refine rcV (As := [.int v6]) (rest := []) ⟨hx, hb, hml, hown, hts⟩ (c_X7_chain l X gi gl ga vS vF sN sF v6 hc39) ⟨w_414, w_349, w_350, w_53, w_351⟩ hd_X7_chain rfl rfl ⟨(Nat.le_of_ble_eq_true rfl), (Nat.le_of_ble_eq_true rfl)⟩ ⟨Nat.zero_le _, Nat.zero_le _⟩ gPre_blind (va_recv hK hP (ci := 3) rfl (cG_v (by decide : 0 < 4))) (gPre_call hP hK hN hZ hS) rfl rfl hl.1 (Nat.le_of_ble_eq_true rfl) dX0_way_39 ?_
          refine lv_iload hx hb dX0_way_42 (lv_at hl 3 rfl) ?_
          refine lv_icmp_ne (tgt := 57) hx hb dX0_way_44 (by decide) (fun c44 => ?_) (fun c44 => ?_)
          · replace h := if_f c44 h
            refine lv_iinc (v := (v6 + (1 : Int32))) (lv' := [(6, .int (v6 + (1 : Int32))), (0, .ref (xAV X (0) 0)), (3, .int v3), (4, .int v4), (5, .int v5)]) hx hb dX0_way_57 hl (k := 4) rfl rfl (by decide) rfl (fun ls hl => ?_)
            refine lv_goto (tgt := 22) hx hb dX0_way_60 (by decide) ?_
            exact ih22 v3 v4 v5 (v6 + (1 : Int32)) ls (lv_sub hl [1, 2, 3, 4, 0] rfl) h
          · replace h := if_t c44 h
            refine lv_iload_n hx hb dX0_way_47 rfl (lv_at hl 1 rfl) ?_
            refine lv_iload hx hb dX0_way_48 (lv_at hl 2 rfl) ?_
            refine lv_ixor hx hb dX0_way_50 ?_
            refine lv_iconst (v := 1) hx hb dX0_way_51 (by decide) ?_
            refine lv_iload hx hb dX0_way_52 (lv_at hl 4 rfl) ?_
            refine lv_ishl hx hb dX0_way_54 ?_
            refine lv_ior hx hb dX0_way_55 ?_
            cases h
            exact W.iret hx hb hr (fun t ht _ => ⟨rfl, ht⟩) (fun _ hq => by cases hq) dX0_way_56
  rw [X0_way] at h
  refine lv_aload_n hx hb dX0_way_0 rfl (lv_at hl 0 rfl) ?_
  refine lv_iload_n hx hb dX0_way_1 rfl (lv_at hl 1 rfl) ?_
  obtain ⟨r2, hc2, h⟩ := Option.bind_eq_some_iff.mp h
  refine rcV (As := [.int a1]) (rest := []) ⟨hx, hb, hml, hown, hts⟩ (c_X7_chain l X gi gl ga vS vF sN sF a1 hc2) ⟨w_414, w_349, w_350, w_53, w_351⟩ hd_X7_chain rfl rfl ⟨(Nat.le_of_ble_eq_true rfl), (Nat.le_of_ble_eq_true rfl)⟩ ⟨Nat.zero_le _, Nat.zero_le _⟩ gPre_blind (va_recv hK hP (ci := 3) rfl (cG_v (by decide : 0 < 4))) (gPre_call hP hK hN hZ hS) rfl rfl hl.1 (Nat.le_of_ble_eq_true rfl) dX0_way_2 ?_
  refine lv_istore_n (lv' := [(3, .int r2), (0, .ref (xAV X (0) 0)), (1, .int a1), (2, .int a2)]) hx hb dX0_way_5 rfl hl (by decide) rfl (fun ls hl => ?_)
  refine lv_aload_n hx hb dX0_way_6 rfl (lv_at hl 1 rfl) ?_
  refine lv_iload_n hx hb dX0_way_7 rfl (lv_at hl 3 rfl) ?_
  obtain ⟨r8, hc8, h⟩ := Option.bind_eq_some_iff.mp h
  refine rcV (As := [.int a2]) (rest := []) ⟨hx, hb, hml, hown, hts⟩ (c_X7_chain l X gi gl ga vS vF sN sF a2 hc8) ⟨w_414, w_349, w_350, w_53, w_351⟩ hd_X7_chain rfl rfl ⟨(Nat.le_of_ble_eq_true rfl), (Nat.le_of_ble_eq_true rfl)⟩ ⟨Nat.zero_le _, Nat.zero_le _⟩ gPre_blind (va_recv hK hP (ci := 3) rfl (cG_v (by decide : 0 < 4))) (gPre_call hP hK hN hZ hS) rfl rfl hl.1 (Nat.le_of_ble_eq_true rfl) dX0_way_8 ?_
  refine lv_istore (lv' := [(4, .int r8), (3, .int r2), (0, .ref (xAV X (0) 0)), (1, .int a1), (2, .int a2)]) hx hb dX0_way_11 hl (by decide) rfl (fun ls hl => ?_)
  refine lv_iload_n hx hb dX0_way_13 rfl (lv_at hl 1 rfl) ?_
  refine lv_iload hx hb dX0_way_14 (lv_at hl 0 rfl) ?_
  refine lv_iand hx hb dX0_way_16 ?_
  refine lv_istore (lv' := [(5, .int (r2 &&& r8)), (4, .int r8), (3, .int r2), (0, .ref (xAV X (0) 0)), (1, .int a1), (2, .int a2)]) hx hb dX0_way_17 hl (by decide) rfl (fun ls hl => ?_)
  refine lv_iconst (v := 0) hx hb dX0_way_19 (by decide) ?_
  refine lv_istore (lv' := [(6, .int (0 : Int32)), (5, .int (r2 &&& r8)), (4, .int r8), (3, .int r2), (0, .ref (xAV X (0) 0)), (1, .int a1), (2, .int a2)]) hx hb dX0_way_20 hl (by decide) rfl (fun ls hl => ?_)
  exact hL22 500 r2 r8 (r2 &&& r8) (0 : Int32) ls (lv_sub hl [4, 3, 2, 1, 0] rfl) h
set_option maxRecDepth 100000 in
set_option maxHeartbeats 4000000 in
theorem c_X0_passings (l : Launch) (X : gX) (gi : Nat → Int32) (gl : Nat → Int64) (ga : Nat → Nat → Int32) (vS : Nat → Nat → Int32) (vF : Nat → Nat → Nat → Int32) (sN : Nat → Int32) (sF : Nat → Nat → Int32) (a1 : Int32) (a2 : Int32) {o0 : Int32} (h : X0_passings vS vF a1 a2 = some o0) : Met l yX0_passings (Cond.code yX0_passings cX0_passings 6 (some .int) :: gT) { frames := 3, cells := 0, slots := 0, locals := 71 } (va_Pc [.ref (xAV X (0) 0), .int a1, .int a2] (gPre X gi gl ga vS vF sN sF)) (k2_QcV (.int o0)) 0 0 (fun _ => False) := by
  refine Met.ofW (cc := cX0_passings) (maxL := 6) (ret := (some .int)) (by decide) rfl ?_
  intro p e s m args below meth c s₁ B hml hv
  obtain ⟨rfl, hP, hK, hN, hZ⟩ := hv
  have hx := B.exec
  have hb := B.bytes
  have hr := B.returns
  have hts := atoms_spec (ws := (Cond.code yX0_passings cX0_passings 6 (some .int) :: gT)) B.pre
  have hT : ∀ w ∈ gT, w.before _ s = true := fun w hw => hts w (List.mem_cons_of_mem _ hw)
  have hown : s.vm.findClass RX0 = some m.cls := findClass_of_methodNamed B.named
  have hlocks := B.notSynchronized
  have hS : va_S (gA X) s.heap s.heap [] := va_S.rf
  have hl := lv_entry ([.ref (xAV X (0) 0), .int a1, .int a2]) (n := 6) (Nat.le_of_ble_eq_true rfl)
  rw [lg_entry_eq]
  generalize (lg_sl ([.ref (xAV X (0) 0), .int a1, .int a2]) ++ List.replicate (6 - (lg_sl ([.ref (xAV X (0) 0), .int a1, .int a2])).length) Slot.unset).toArray = ls at hl ⊢
  have hl : lv_has ls 6 [(0, .ref (xAV X (0) 0)), (1, .int a1), (2, .int a2)] := hl
  have hL17 : ∀ (n17 : Nat) (v2 : Int32) (v3 : Int32) (v4 : Int32) (ls : Array Slot), lv_has ls 6 [(0, .ref (xAV X (0) 0)), (2, .int v2), (3, .int v3), (4, .int v4)] → X0_passings_17 vS vF n17 v2 v3 v4 = some o0 → W p l e (headSpec (Cond.code yX0_passings cX0_passings 6 (some .int) :: gT) { frames := 3, cells := 0, slots := 0, locals := 71 }).room s m [.ref (xAV X (0) 0), .int a1, .int a2].toArray below meth c s.heap [] 0 0 (MQ below (k2_QcV (.int o0)) [.ref (xAV X (0) 0), .int a1, .int a2].toArray s 0 0 (fun _ => False)) (F0 m 17 ls []) := by
    intro n17
    induction n17 with
    | zero =>
      intro v2 v3 v4 ls hl h
      rw [X0_passings_17] at h
      cases h
    | succ n17 ih17 =>
      intro v2 v3 v4 ls hl h
      rw [X0_passings_17] at h
      refine lv_iload hx hb dX0_passings_17 (lv_at hl 3 rfl) ?_
      refine lv_aload_n hx hb dX0_passings_19 rfl (lv_at hl 0 rfl) ?_
      refine rg_V_people (q := (0)) hx hb hT hown hK hP (by decide : 0 < 4) w_83 dX0_passings_20 ?_
      refine lv_icmp_ge (tgt := 73) hx hb dX0_passings_23 (by decide) (fun c23 => ?_) (fun c23 => ?_)
      · replace h := if_t c23 h
        refine lv_iload_n hx hb dX0_passings_73 rfl (lv_at hl 2 rfl) ?_
        obtain ⟨r74, hc74, h⟩ := Option.bind_eq_some_iff.mp h
        refine rcS (As := [.int v3]) (rest := []) ⟨hx, hb, hml, hown, hts⟩ (c_J6_bitCount_0f7a4 l v3 hc74) ⟨w_415, w_357, w_63, w_358⟩ hd_J6_bitCount_0f7a4 rfl rfl ⟨(Nat.le_of_ble_eq_true rfl), (Nat.le_of_ble_eq_true rfl)⟩ ⟨Nat.zero_le _, Nat.zero_le _⟩ (fun _ _ _ _ h => h) (fun _ _ _ => trivial) rfl rfl hl.1 (Nat.le_of_ble_eq_true rfl) dX0_passings_74 ?_
        refine lv_iconst (v := 1) hx hb dX0_passings_77 (by decide) ?_
        refine lv_isub hx hb dX0_passings_78 ?_
        cases h
        exact W.iret hx hb hr (fun t ht _ => ⟨rfl, ht⟩) (fun _ hq => by cases hq) dX0_passings_79
      · replace h := if_f c23 h
        refine lv_iload hx hb dX0_passings_26 (lv_at hl 3 rfl) ?_
        refine lv_iload_n hx hb dX0_passings_28 rfl (lv_at hl 1 rfl) ?_
        refine lv_icmp_eq (tgt := 45) hx hb dX0_passings_29 (by decide) (fun c29 => ?_) (fun c29 => ?_)
        · replace h := if_t c29 h
          refine lv_iconst (v := 0) hx hb dX0_passings_45 (by decide) ?_
          refine lv_istore (lv' := [(5, .int (0 : Int32)), (0, .ref (xAV X (0) 0)), (2, .int v2), (3, .int v3), (4, .int v4)]) hx hb dX0_passings_46 hl (by decide) rfl (fun ls hl => ?_)
          refine lv_iload hx hb dX0_passings_48 (lv_at hl 0 rfl) ?_
          refine lv_if_eq (tgt := 67) hx hb dX0_passings_50 (by decide) (fun c50 => ?_) (fun c50 => ?_)
          · replace h := if_t c50 h
            refine lv_iinc (v := (v4 + (1 : Int32))) (lv' := [(4, .int (v4 + (1 : Int32))), (5, .int (0 : Int32)), (0, .ref (xAV X (0) 0)), (2, .int v2), (3, .int v3)]) hx hb dX0_passings_67 hl (k := 4) rfl rfl (by decide) rfl (fun ls hl => ?_)
            refine lv_goto (tgt := 17) hx hb dX0_passings_70 (by decide) ?_
            exact ih17 v2 v3 (v4 + (1 : Int32)) ls (lv_sub hl [2, 3, 4, 0] rfl) h
          · replace h := if_f c50 h
            refine lv_aload_n hx hb dX0_passings_53 rfl (lv_at hl 1 rfl) ?_
            refine rg_V_kinds (q := (0)) hx hb hT hown hK hP (by decide : 0 < 4) w_93 dX0_passings_54 ?_
            refine lv_iload hx hb dX0_passings_57 (lv_at hl 4 rfl) ?_
            obtain ⟨hi59, h⟩ := gd_e h
            refine ra_v0 (q := (0)) hx hb hK hP (by decide : 0 < 4) (ib_in hi59) dX0_passings_59 ?_
            refine lv_iconst (v := 1) hx hb dX0_passings_60 (by decide) ?_
            refine lv_icmp_ne (tgt := 67) hx hb dX0_passings_61 (by decide) (fun c61 => ?_) (fun c61 => ?_)
            · replace h := if_f c61 h
              refine lv_iinc (v := (v4 + (1 : Int32))) (lv' := [(4, .int (v4 + (1 : Int32))), (5, .int (0 : Int32)), (0, .ref (xAV X (0) 0)), (2, .int v2), (3, .int v3)]) hx hb dX0_passings_67 hl (k := 4) rfl rfl (by decide) rfl (fun ls hl => ?_)
              refine lv_goto (tgt := 17) hx hb dX0_passings_70 (by decide) ?_
              exact ih17 v2 v3 (v4 + (1 : Int32)) ls (lv_sub hl [2, 3, 4, 0] rfl) h
            · replace h := if_t c61 h
              refine lv_bipush (v := -9) hx hb dX0_passings_64 (by decide) ?_
              cases h
              exact W.iret hx hb hr (fun t ht _ => ⟨rfl, ht⟩) (fun _ hq => by cases hq) dX0_passings_66
        · replace h := if_f c29 h
          refine lv_iload_n hx hb dX0_passings_32 rfl (lv_at hl 2 rfl) ?_
          refine lv_iload hx hb dX0_passings_33 (lv_at hl 3 rfl) ?_
          refine lv_ishr hx hb dX0_passings_35 ?_
          refine lv_iconst (v := 1) hx hb dX0_passings_36 (by decide) ?_
          refine lv_iand hx hb dX0_passings_37 ?_
          refine lv_if_eq (tgt := 45) hx hb dX0_passings_38 (by decide) (fun c38 => ?_) (fun c38 => ?_)
          · replace h := if_t c38 h
            refine lv_iconst (v := 0) hx hb dX0_passings_45 (by decide) ?_
            refine lv_istore (lv' := [(5, .int (0 : Int32)), (0, .ref (xAV X (0) 0)), (2, .int v2), (3, .int v3), (4, .int v4)]) hx hb dX0_passings_46 hl (by decide) rfl (fun ls hl => ?_)
            refine lv_iload hx hb dX0_passings_48 (lv_at hl 0 rfl) ?_
            refine lv_if_eq (tgt := 67) hx hb dX0_passings_50 (by decide) (fun c50 => ?_) (fun c50 => ?_)
            · replace h := if_t c50 h
              refine lv_iinc (v := (v4 + (1 : Int32))) (lv' := [(4, .int (v4 + (1 : Int32))), (5, .int (0 : Int32)), (0, .ref (xAV X (0) 0)), (2, .int v2), (3, .int v3)]) hx hb dX0_passings_67 hl (k := 4) rfl rfl (by decide) rfl (fun ls hl => ?_)
              refine lv_goto (tgt := 17) hx hb dX0_passings_70 (by decide) ?_
              exact ih17 v2 v3 (v4 + (1 : Int32)) ls (lv_sub hl [2, 3, 4, 0] rfl) h
            · replace h := if_f c50 h
              refine lv_aload_n hx hb dX0_passings_53 rfl (lv_at hl 1 rfl) ?_
              refine rg_V_kinds (q := (0)) hx hb hT hown hK hP (by decide : 0 < 4) w_93 dX0_passings_54 ?_
              refine lv_iload hx hb dX0_passings_57 (lv_at hl 4 rfl) ?_
              obtain ⟨hi59, h⟩ := gd_e h
              refine ra_v0 (q := (0)) hx hb hK hP (by decide : 0 < 4) (ib_in hi59) dX0_passings_59 ?_
              refine lv_iconst (v := 1) hx hb dX0_passings_60 (by decide) ?_
              refine lv_icmp_ne (tgt := 67) hx hb dX0_passings_61 (by decide) (fun c61 => ?_) (fun c61 => ?_)
              · replace h := if_f c61 h
                refine lv_iinc (v := (v4 + (1 : Int32))) (lv' := [(4, .int (v4 + (1 : Int32))), (5, .int (0 : Int32)), (0, .ref (xAV X (0) 0)), (2, .int v2), (3, .int v3)]) hx hb dX0_passings_67 hl (k := 4) rfl rfl (by decide) rfl (fun ls hl => ?_)
                refine lv_goto (tgt := 17) hx hb dX0_passings_70 (by decide) ?_
                exact ih17 v2 v3 (v4 + (1 : Int32)) ls (lv_sub hl [2, 3, 4, 0] rfl) h
              · replace h := if_t c61 h
                refine lv_bipush (v := -9) hx hb dX0_passings_64 (by decide) ?_
                cases h
                exact W.iret hx hb hr (fun t ht _ => ⟨rfl, ht⟩) (fun _ hq => by cases hq) dX0_passings_66
          · replace h := if_f c38 h
            refine lv_iconst (v := 1) hx hb dX0_passings_41 (by decide) ?_
            refine lv_goto (tgt := 46) hx hb dX0_passings_42 (by decide) ?_
            refine lv_istore (lv' := [(5, .int (1 : Int32)), (0, .ref (xAV X (0) 0)), (2, .int v2), (3, .int v3), (4, .int v4)]) hx hb dX0_passings_46 hl (by decide) rfl (fun ls hl => ?_)
            refine lv_iload hx hb dX0_passings_48 (lv_at hl 0 rfl) ?_
            refine lv_if_eq (tgt := 67) hx hb dX0_passings_50 (by decide) (fun c50 => ?_) (fun c50 => ?_)
            · replace h := if_t c50 h
              refine lv_iinc (v := (v4 + (1 : Int32))) (lv' := [(4, .int (v4 + (1 : Int32))), (5, .int (1 : Int32)), (0, .ref (xAV X (0) 0)), (2, .int v2), (3, .int v3)]) hx hb dX0_passings_67 hl (k := 4) rfl rfl (by decide) rfl (fun ls hl => ?_)
              refine lv_goto (tgt := 17) hx hb dX0_passings_70 (by decide) ?_
              exact ih17 v2 v3 (v4 + (1 : Int32)) ls (lv_sub hl [2, 3, 4, 0] rfl) h
            · replace h := if_f c50 h
              refine lv_aload_n hx hb dX0_passings_53 rfl (lv_at hl 1 rfl) ?_
              refine rg_V_kinds (q := (0)) hx hb hT hown hK hP (by decide : 0 < 4) w_93 dX0_passings_54 ?_
              refine lv_iload hx hb dX0_passings_57 (lv_at hl 4 rfl) ?_
              obtain ⟨hi59, h⟩ := gd_e h
              refine ra_v0 (q := (0)) hx hb hK hP (by decide : 0 < 4) (ib_in hi59) dX0_passings_59 ?_
              refine lv_iconst (v := 1) hx hb dX0_passings_60 (by decide) ?_
              refine lv_icmp_ne (tgt := 67) hx hb dX0_passings_61 (by decide) (fun c61 => ?_) (fun c61 => ?_)
              · replace h := if_f c61 h
                refine lv_iinc (v := (v4 + (1 : Int32))) (lv' := [(4, .int (v4 + (1 : Int32))), (5, .int (1 : Int32)), (0, .ref (xAV X (0) 0)), (2, .int v2), (3, .int v3)]) hx hb dX0_passings_67 hl (k := 4) rfl rfl (by decide) rfl (fun ls hl => ?_)
                refine lv_goto (tgt := 17) hx hb dX0_passings_70 (by decide) ?_
                exact ih17 v2 v3 (v4 + (1 : Int32)) ls (lv_sub hl [2, 3, 4, 0] rfl) h
              · replace h := if_t c61 h
                refine lv_bipush (v := -9) hx hb dX0_passings_64 (by decide) ?_
                cases h
                exact W.iret hx hb hr (fun t ht _ => ⟨rfl, ht⟩) (fun _ hq => by cases hq) dX0_passings_66
  rw [X0_passings] at h
  refine lv_aload_n hx hb dX0_passings_0 rfl (lv_at hl 0 rfl) ?_
  refine lv_iload_n hx hb dX0_passings_1 rfl (lv_at hl 1 rfl) ?_
  refine lv_iload_n hx hb dX0_passings_2 rfl (lv_at hl 2 rfl) ?_
  obtain ⟨r3, hc3, h⟩ := Option.bind_eq_some_iff.mp h
  refine rcS (As := [.ref (xAV X (0) 0), .int a1, .int a2]) (rest := []) ⟨hx, hb, hml, hown, hts⟩ (c_X0_way l X gi gl ga vS vF sN sF a1 a2 hc3) ⟨w_411, w_412, w_54, w_413⟩ hd_X0_way rfl rfl ⟨(Nat.le_of_ble_eq_true rfl), (Nat.le_of_ble_eq_true rfl)⟩ ⟨Nat.zero_le _, Nat.zero_le _⟩ gPre_blind (gPre_call hP hK hN hZ hS) rfl rfl hl.1 (Nat.le_of_ble_eq_true rfl) dX0_passings_3 ?_
  refine lv_istore_n (lv' := [(3, .int r3), (0, .ref (xAV X (0) 0)), (1, .int a1), (2, .int a2)]) hx hb dX0_passings_6 rfl hl (by decide) rfl (fun ls hl => ?_)
  refine lv_iload_n hx hb dX0_passings_7 rfl (lv_at hl 0 rfl) ?_
  refine lv_if_ne (tgt := 14) hx hb dX0_passings_8 (by decide) (fun c8 => ?_) (fun c8 => ?_)
  · replace h := if_f c8 h
    refine lv_iconst (v := 0) hx hb dX0_passings_14 (by decide) ?_
    refine lv_istore (lv' := [(4, .int (0 : Int32)), (3, .int r3), (0, .ref (xAV X (0) 0)), (1, .int a1), (2, .int a2)]) hx hb dX0_passings_15 hl (by decide) rfl (fun ls hl => ?_)
    exact hL17 500 a2 r3 (0 : Int32) ls (lv_sub hl [2, 4, 1, 0] rfl) h
  · replace h := if_t c8 h
    refine lv_bipush (v := -9) hx hb dX0_passings_11 (by decide) ?_
    cases h
    exact W.iret hx hb hr (fun t ht _ => ⟨rfl, ht⟩) (fun _ hq => by cases hq) dX0_passings_13
set_option maxRecDepth 100000 in
set_option maxHeartbeats 4000000 in
theorem c_X0_fedBy (l : Launch) (X : gX) (gi : Nat → Int32) (gl : Nat → Int64) (ga : Nat → Nat → Int32) (vS : Nat → Nat → Int32) (vF : Nat → Nat → Nat → Int32) (sN : Nat → Int32) (sF : Nat → Nat → Int32) (a1 : Int32) {o0 : Int32} (h : X0_fedBy vS vF a1 = some o0) : Met l yX0_fedBy (Cond.code yX0_fedBy cX0_fedBy 4 (some .int) :: gT) { frames := 4, cells := 0, slots := 0, locals := 96 } (va_Pc [.ref (xAV X (0) 0), .int a1] (gPre X gi gl ga vS vF sN sF)) (k2_QcV (.int o0)) 0 0 (fun _ => False) := by
  refine Met.ofW (cc := cX0_fedBy) (maxL := 4) (ret := (some .int)) (by decide) rfl ?_
  intro p e s m args below meth c s₁ B hml hv
  obtain ⟨rfl, hP, hK, hN, hZ⟩ := hv
  have hx := B.exec
  have hb := B.bytes
  have hr := B.returns
  have hts := atoms_spec (ws := (Cond.code yX0_fedBy cX0_fedBy 4 (some .int) :: gT)) B.pre
  have hT : ∀ w ∈ gT, w.before _ s = true := fun w hw => hts w (List.mem_cons_of_mem _ hw)
  have hown : s.vm.findClass RX0 = some m.cls := findClass_of_methodNamed B.named
  have hlocks := B.notSynchronized
  have hS : va_S (gA X) s.heap s.heap [] := va_S.rf
  have hl := lv_entry ([.ref (xAV X (0) 0), .int a1]) (n := 4) (Nat.le_of_ble_eq_true rfl)
  rw [lg_entry_eq]
  generalize (lg_sl ([.ref (xAV X (0) 0), .int a1]) ++ List.replicate (4 - (lg_sl ([.ref (xAV X (0) 0), .int a1])).length) Slot.unset).toArray = ls at hl ⊢
  have hl : lv_has ls 4 [(0, .ref (xAV X (0) 0)), (1, .int a1)] := hl
  have hL4 : ∀ (n4 : Nat) (v1 : Int32) (v2 : Int32) (v3 : Int32) (ls : Array Slot), lv_has ls 4 [(0, .ref (xAV X (0) 0)), (1, .int v1), (2, .int v2), (3, .int v3)] → X0_fedBy_4 vS vF n4 v1 v2 v3 = some o0 → W p l e (headSpec (Cond.code yX0_fedBy cX0_fedBy 4 (some .int) :: gT) { frames := 4, cells := 0, slots := 0, locals := 96 }).room s m [.ref (xAV X (0) 0), .int a1].toArray below meth c s.heap [] 0 0 (MQ below (k2_QcV (.int o0)) [.ref (xAV X (0) 0), .int a1].toArray s 0 0 (fun _ => False)) (F0 m 4 ls []) := by
    intro n4
    induction n4 with
    | zero =>
      intro v1 v2 v3 ls hl h
      rw [X0_fedBy_4] at h
      cases h
    | succ n4 ih4 =>
      intro v1 v2 v3 ls hl h
      rw [X0_fedBy_4] at h
      refine lv_iload_n hx hb dX0_fedBy_4 rfl (lv_at hl 3 rfl) ?_
      refine lv_aload_n hx hb dX0_fedBy_5 rfl (lv_at hl 0 rfl) ?_
      refine rg_V_people (q := (0)) hx hb hT hown hK hP (by decide : 0 < 4) w_83 dX0_fedBy_6 ?_
      refine lv_icmp_ge (tgt := 48) hx hb dX0_fedBy_9 (by decide) (fun c9 => ?_) (fun c9 => ?_)
      · replace h := if_t c9 h
        refine lv_iload_n hx hb dX0_fedBy_48 rfl (lv_at hl 2 rfl) ?_
        cases h
        exact W.iret hx hb hr (fun t ht _ => ⟨rfl, ht⟩) (fun _ hq => by cases hq) dX0_fedBy_49
      · replace h := if_f c9 h
        refine lv_aload_n hx hb dX0_fedBy_12 rfl (lv_at hl 0 rfl) ?_
        refine lv_iload_n hx hb dX0_fedBy_13 rfl (lv_at hl 1 rfl) ?_
        obtain ⟨r14, hc14, h⟩ := Option.bind_eq_some_iff.mp h
        refine rcV (As := [.int v1]) (rest := []) ⟨hx, hb, hml, hown, hts⟩ (c_X7_isStuck l X gi gl ga vS vF sN sF v1 hc14) ⟨w_407, w_353, w_354, w_53, w_355⟩ hd_X7_isStuck rfl rfl ⟨(Nat.le_of_ble_eq_true rfl), (Nat.le_of_ble_eq_true rfl)⟩ ⟨Nat.zero_le _, Nat.zero_le _⟩ gPre_blind (va_recv hK hP (ci := 3) rfl (cG_v (by decide : 0 < 4))) (gPre_call hP hK hN hZ hS) rfl rfl hl.1 (Nat.le_of_ble_eq_true rfl) dX0_fedBy_14 ?_
        refine lv_if_eq (tgt := 42) hx hb dX0_fedBy_17 (by decide) (fun c17 => ?_) (fun c17 => ?_)
        · replace h := if_t c17 h
          refine lv_iinc (v := (v3 + (1 : Int32))) (lv' := [(3, .int (v3 + (1 : Int32))), (0, .ref (xAV X (0) 0)), (1, .int v1), (2, .int v2)]) hx hb dX0_fedBy_42 hl (k := 3) rfl rfl (by decide) rfl (fun ls hl => ?_)
          refine lv_goto (tgt := 4) hx hb dX0_fedBy_45 (by decide) ?_
          exact ih4 v1 v2 (v3 + (1 : Int32)) ls (lv_sub hl [1, 2, 3, 0] rfl) h
        · replace h := if_f c17 h
          refine lv_iload_n hx hb dX0_fedBy_20 rfl (lv_at hl 1 rfl) ?_
          refine lv_iload_n hx hb dX0_fedBy_21 rfl (lv_at hl 3 rfl) ?_
          refine lv_icmp_eq (tgt := 36) hx hb dX0_fedBy_22 (by decide) (fun c22 => ?_) (fun c22 => ?_)
          · replace h := if_t c22 h
            refine lv_iload_n hx hb dX0_fedBy_36 rfl (lv_at hl 2 rfl) ?_
            refine lv_iconst (v := 1) hx hb dX0_fedBy_37 (by decide) ?_
            refine lv_iload_n hx hb dX0_fedBy_38 rfl (lv_at hl 3 rfl) ?_
            refine lv_ishl hx hb dX0_fedBy_39 ?_
            refine lv_ior hx hb dX0_fedBy_40 ?_
            refine lv_istore_n (lv' := [(2, .int (v2 ||| ((1 : Int32) <<< (v3 &&& 31)))), (0, .ref (xAV X (0) 0)), (1, .int v1), (3, .int v3)]) hx hb dX0_fedBy_41 rfl hl (by decide) rfl (fun ls hl => ?_)
            refine lv_iinc (v := (v3 + (1 : Int32))) (lv' := [(3, .int (v3 + (1 : Int32))), (2, .int (v2 ||| ((1 : Int32) <<< (v3 &&& 31)))), (0, .ref (xAV X (0) 0)), (1, .int v1)]) hx hb dX0_fedBy_42 hl (k := 3) rfl rfl (by decide) rfl (fun ls hl => ?_)
            refine lv_goto (tgt := 4) hx hb dX0_fedBy_45 (by decide) ?_
            exact ih4 v1 (v2 ||| ((1 : Int32) <<< (v3 &&& 31))) (v3 + (1 : Int32)) ls (lv_sub hl [2, 3, 1, 0] rfl) h
          · replace h := if_f c22 h
            refine lv_aload_n hx hb dX0_fedBy_25 rfl (lv_at hl 0 rfl) ?_
            refine lv_iload_n hx hb dX0_fedBy_26 rfl (lv_at hl 1 rfl) ?_
            refine lv_iload_n hx hb dX0_fedBy_27 rfl (lv_at hl 3 rfl) ?_
            obtain ⟨r28, hc28, h⟩ := Option.bind_eq_some_iff.mp h
            refine rcS (As := [.ref (xAV X (0) 0), .int v1, .int v3]) (rest := []) ⟨hx, hb, hml, hown, hts⟩ (c_X0_passings l X gi gl ga vS vF sN sF v1 v3 hc28) ⟨w_408, w_409, w_54, w_410⟩ hd_X0_passings rfl rfl ⟨(Nat.le_of_ble_eq_true rfl), (Nat.le_of_ble_eq_true rfl)⟩ ⟨Nat.zero_le _, Nat.zero_le _⟩ gPre_blind (gPre_call hP hK hN hZ hS) rfl rfl hl.1 (Nat.le_of_ble_eq_true rfl) dX0_fedBy_28 ?_
            refine lv_bipush (v := -9) hx hb dX0_fedBy_31 (by decide) ?_
            refine lv_icmp_eq (tgt := 42) hx hb dX0_fedBy_33 (by decide) (fun c33 => ?_) (fun c33 => ?_)
            · replace h := if_t c33 h
              refine lv_iinc (v := (v3 + (1 : Int32))) (lv' := [(3, .int (v3 + (1 : Int32))), (0, .ref (xAV X (0) 0)), (1, .int v1), (2, .int v2)]) hx hb dX0_fedBy_42 hl (k := 3) rfl rfl (by decide) rfl (fun ls hl => ?_)
              refine lv_goto (tgt := 4) hx hb dX0_fedBy_45 (by decide) ?_
              exact ih4 v1 v2 (v3 + (1 : Int32)) ls (lv_sub hl [1, 2, 3, 0] rfl) h
            · replace h := if_f c33 h
              refine lv_iload_n hx hb dX0_fedBy_36 rfl (lv_at hl 2 rfl) ?_
              refine lv_iconst (v := 1) hx hb dX0_fedBy_37 (by decide) ?_
              refine lv_iload_n hx hb dX0_fedBy_38 rfl (lv_at hl 3 rfl) ?_
              refine lv_ishl hx hb dX0_fedBy_39 ?_
              refine lv_ior hx hb dX0_fedBy_40 ?_
              refine lv_istore_n (lv' := [(2, .int (v2 ||| ((1 : Int32) <<< (v3 &&& 31)))), (0, .ref (xAV X (0) 0)), (1, .int v1), (3, .int v3)]) hx hb dX0_fedBy_41 rfl hl (by decide) rfl (fun ls hl => ?_)
              refine lv_iinc (v := (v3 + (1 : Int32))) (lv' := [(3, .int (v3 + (1 : Int32))), (2, .int (v2 ||| ((1 : Int32) <<< (v3 &&& 31)))), (0, .ref (xAV X (0) 0)), (1, .int v1)]) hx hb dX0_fedBy_42 hl (k := 3) rfl rfl (by decide) rfl (fun ls hl => ?_)
              refine lv_goto (tgt := 4) hx hb dX0_fedBy_45 (by decide) ?_
              exact ih4 v1 (v2 ||| ((1 : Int32) <<< (v3 &&& 31))) (v3 + (1 : Int32)) ls (lv_sub hl [2, 3, 1, 0] rfl) h
  rw [X0_fedBy] at h
  refine lv_iconst (v := 0) hx hb dX0_fedBy_0 (by decide) ?_
  refine lv_istore_n (lv' := [(2, .int (0 : Int32)), (0, .ref (xAV X (0) 0)), (1, .int a1)]) hx hb dX0_fedBy_1 rfl hl (by decide) rfl (fun ls hl => ?_)
  refine lv_iconst (v := 0) hx hb dX0_fedBy_2 (by decide) ?_
  refine lv_istore_n (lv' := [(3, .int (0 : Int32)), (2, .int (0 : Int32)), (0, .ref (xAV X (0) 0)), (1, .int a1)]) hx hb dX0_fedBy_3 rfl hl (by decide) rfl (fun ls hl => ?_)
  exact hL4 500 a1 (0 : Int32) (0 : Int32) ls (lv_sub hl [2, 3, 1, 0] rfl) h
set_option maxRecDepth 100000 in
set_option maxHeartbeats 4000000 in
theorem c_X0_fedByAll (l : Launch) (X : gX) (gi : Nat → Int32) (gl : Nat → Int64) (ga : Nat → Nat → Int32) (vS : Nat → Nat → Int32) (vF : Nat → Nat → Nat → Int32) (sN : Nat → Int32) (sF : Nat → Nat → Int32) (a1 : Int32) {o0 : Int32} (h : X0_fedByAll ga a1 = some o0) : Met l yX0_fedByAll (Cond.code yX0_fedByAll cX0_fedByAll 4 (some .int) :: gT) { frames := 0, cells := 0, slots := 0, locals := 0 } (va_Pc [.ref (xA X 4), .int a1] (gPre X gi gl ga vS vF sN sF)) (k2_QcV (.int o0)) 0 0 (fun _ => False) := by
  refine Met.ofW (cc := cX0_fedByAll) (maxL := 4) (ret := (some .int)) (by decide) rfl ?_
  intro p e s m args below meth c s₁ B hml hv
  obtain ⟨rfl, hP, hK, hN, hZ⟩ := hv
  have hx := B.exec
  have hb := B.bytes
  have hr := B.returns
  have hts := atoms_spec (ws := (Cond.code yX0_fedByAll cX0_fedByAll 4 (some .int) :: gT)) B.pre
  have hT : ∀ w ∈ gT, w.before _ s = true := fun w hw => hts w (List.mem_cons_of_mem _ hw)
  have hown : s.vm.findClass RX0 = some m.cls := findClass_of_methodNamed B.named
  have hlocks := B.notSynchronized
  have hS : va_S (gA X) s.heap s.heap [] := va_S.rf
  have hl := lv_entry ([.ref (xA X 4), .int a1]) (n := 4) (Nat.le_of_ble_eq_true rfl)
  rw [lg_entry_eq]
  generalize (lg_sl ([.ref (xA X 4), .int a1]) ++ List.replicate (4 - (lg_sl ([.ref (xA X 4), .int a1])).length) Slot.unset).toArray = ls at hl ⊢
  have hl : lv_has ls 4 [(0, .ref (xA X 4)), (1, .int a1)] := hl
  have hL4 : ∀ (n4 : Nat) (v1 : Int32) (v2 : Int32) (v3 : Int32) (ls : Array Slot), lv_has ls 4 [(0, .ref (xA X 4)), (1, .int v1), (2, .int v2), (3, .int v3)] → X0_fedByAll_4 ga n4 v1 v2 v3 = some o0 → W p l e (headSpec (Cond.code yX0_fedByAll cX0_fedByAll 4 (some .int) :: gT) { frames := 0, cells := 0, slots := 0, locals := 0 }).room s m [.ref (xA X 4), .int a1].toArray below meth c s.heap [] 0 0 (MQ below (k2_QcV (.int o0)) [.ref (xA X 4), .int a1].toArray s 0 0 (fun _ => False)) (F0 m 4 ls []) := by
    intro n4
    induction n4 with
    | zero =>
      intro v1 v2 v3 ls hl h
      rw [X0_fedByAll_4] at h
      cases h
    | succ n4 ih4 =>
      intro v1 v2 v3 ls hl h
      rw [X0_fedByAll_4] at h
      refine lv_iload_n hx hb dX0_fedByAll_4 rfl (lv_at hl 3 rfl) ?_
      refine lv_bipush (v := 7) hx hb dX0_fedByAll_5 (by decide) ?_
      refine lv_icmp_ge (tgt := 33) hx hb dX0_fedByAll_7 (by decide) (fun c7 => ?_) (fun c7 => ?_)
      · replace h := if_t c7 h
        refine lv_iload_n hx hb dX0_fedByAll_33 rfl (lv_at hl 2 rfl) ?_
        cases h
        exact W.iret hx hb hr (fun t ht _ => ⟨rfl, ht⟩) (fun _ hq => by cases hq) dX0_fedByAll_34
      · replace h := if_f c7 h
        refine lv_iload_n hx hb dX0_fedByAll_10 rfl (lv_at hl 1 rfl) ?_
        refine lv_iload_n hx hb dX0_fedByAll_11 rfl (lv_at hl 3 rfl) ?_
        refine lv_ishr hx hb dX0_fedByAll_12 ?_
        refine lv_iconst (v := 1) hx hb dX0_fedByAll_13 (by decide) ?_
        refine lv_iand hx hb dX0_fedByAll_14 ?_
        refine lv_if_eq (tgt := 27) hx hb dX0_fedByAll_15 (by decide) (fun c15 => ?_) (fun c15 => ?_)
        · replace h := if_t c15 h
          refine lv_iinc (v := (v3 + (1 : Int32))) (lv' := [(3, .int (v3 + (1 : Int32))), (0, .ref (xA X 4)), (1, .int v1), (2, .int v2)]) hx hb dX0_fedByAll_27 hl (k := 3) rfl rfl (by decide) rfl (fun ls hl => ?_)
          refine lv_goto (tgt := 4) hx hb dX0_fedByAll_30 (by decide) ?_
          exact ih4 v1 v2 (v3 + (1 : Int32)) ls (lv_sub hl [1, 2, 3, 0] rfl) h
        · replace h := if_f c15 h
          refine lv_iload_n hx hb dX0_fedByAll_18 rfl (lv_at hl 2 rfl) ?_
          refine lv_aload_n hx hb dX0_fedByAll_19 rfl (lv_at hl 0 rfl) ?_
          refine rg_F_fed hx hb hT hown hK hP w_143 dX0_fedByAll_20 ?_
          refine lv_iload_n hx hb dX0_fedByAll_23 rfl (lv_at hl 3 rfl) ?_
          obtain ⟨hi24, h⟩ := gd_e h
          refine ra_g0 hx hb hK hP (ib_in hi24) dX0_fedByAll_24 ?_
          refine lv_ior hx hb dX0_fedByAll_25 ?_
          refine lv_istore_n (lv' := [(2, .int (v2 ||| (ga 0 v3.toNatClampNeg))), (0, .ref (xA X 4)), (1, .int v1), (3, .int v3)]) hx hb dX0_fedByAll_26 rfl hl (by decide) rfl (fun ls hl => ?_)
          refine lv_iinc (v := (v3 + (1 : Int32))) (lv' := [(3, .int (v3 + (1 : Int32))), (2, .int (v2 ||| (ga 0 v3.toNatClampNeg))), (0, .ref (xA X 4)), (1, .int v1)]) hx hb dX0_fedByAll_27 hl (k := 3) rfl rfl (by decide) rfl (fun ls hl => ?_)
          refine lv_goto (tgt := 4) hx hb dX0_fedByAll_30 (by decide) ?_
          exact ih4 v1 (v2 ||| (ga 0 v3.toNatClampNeg)) (v3 + (1 : Int32)) ls (lv_sub hl [2, 3, 1, 0] rfl) h
  rw [X0_fedByAll] at h
  refine lv_iconst (v := 0) hx hb dX0_fedByAll_0 (by decide) ?_
  refine lv_istore_n (lv' := [(2, .int (0 : Int32)), (0, .ref (xA X 4)), (1, .int a1)]) hx hb dX0_fedByAll_1 rfl hl (by decide) rfl (fun ls hl => ?_)
  refine lv_iconst (v := 0) hx hb dX0_fedByAll_2 (by decide) ?_
  refine lv_istore_n (lv' := [(3, .int (0 : Int32)), (2, .int (0 : Int32)), (0, .ref (xA X 4)), (1, .int a1)]) hx hb dX0_fedByAll_3 rfl hl (by decide) rfl (fun ls hl => ?_)
  exact hL4 500 a1 (0 : Int32) (0 : Int32) ls (lv_sub hl [2, 3, 1, 0] rfl) h
set_option maxRecDepth 100000 in
set_option maxHeartbeats 4000000 in
theorem c_X0_fewestSpoons (l : Launch) (X : gX) (gi : Nat → Int32) (gl : Nat → Int64) (ga : Nat → Nat → Int32) (vS : Nat → Nat → Int32) (vF : Nat → Nat → Nat → Int32) (sN : Nat → Int32) (sF : Nat → Nat → Int32) {o0 : Int32} {o_ga : Nat → Nat → Int32} (h : X0_fewestSpoons vS vF ga = some (o0, o_ga)) : Met l yX0_fewestSpoons (Cond.code yX0_fewestSpoons cX0_fewestSpoons 6 (some .int) :: gT) { frames := 5, cells := 0, slots := 0, locals := 119 } (va_Pc [.ref (xA X 4), .ref (xAV X (0) 0)] (gPre X gi gl ga vS vF sN sF)) (wQ (some (.int o0)) (fun H => va_P X.1 vwCl (cG X gi gl o_ga vS vF sN sF) H) (gA X)) 0 0 (gA X) := by
  refine Met.ofW (cc := cX0_fewestSpoons) (maxL := 6) (ret := (some .int)) (by decide) rfl ?_
  intro p e s m args below meth c s₁ B hml hv
  obtain ⟨rfl, hP, hK, hN, hZ⟩ := hv
  have hx := B.exec
  have hb := B.bytes
  have hr := B.returns
  have hts := atoms_spec (ws := (Cond.code yX0_fewestSpoons cX0_fewestSpoons 6 (some .int) :: gT)) B.pre
  have hT : ∀ w ∈ gT, w.before _ s = true := fun w hw => hts w (List.mem_cons_of_mem _ hw)
  have hown : s.vm.findClass RX0 = some m.cls := findClass_of_methodNamed B.named
  have hlocks := B.notSynchronized
  have hS : va_S (gA X) s.heap s.heap [] := va_S.rf
  have hl := lv_entry ([.ref (xA X 4), .ref (xAV X (0) 0)]) (n := 6) (Nat.le_of_ble_eq_true rfl)
  rw [lg_entry_eq]
  generalize (lg_sl ([.ref (xA X 4), .ref (xAV X (0) 0)]) ++ List.replicate (6 - (lg_sl ([.ref (xA X 4), .ref (xAV X (0) 0)])).length) Slot.unset).toArray = ls at hl ⊢
  have hl : lv_has ls 6 [(0, .ref (xA X 4)), (1, .ref (xAV X (0) 0))] := hl
  have hL35 : ∀ (n35 : Nat) (v2 : Int32) (v3 : Int32) (v4 : Int32) (ga : Nat → Nat → Int32) (H : Heap) (locs : List Loc) (ls : Array Slot), lv_has ls 6 [(0, .ref (xA X 4)), (2, .int v2), (3, .int v3), (4, .int v4)] → va_P X.1 vwCl (cG X gi gl ga vS vF sN sF) H → va_S (gA X) s.heap H locs → X0_fewestSpoons_35 vS vF n35 v2 v3 v4 ga = some (o0, o_ga) → W p l e (headSpec (Cond.code yX0_fewestSpoons cX0_fewestSpoons 6 (some .int) :: gT) { frames := 5, cells := 0, slots := 0, locals := 119 }).room s m [.ref (xA X 4), .ref (xAV X (0) 0)].toArray below meth c H locs 0 0 (MQ below (wQ (some (.int o0)) (fun H => va_P X.1 vwCl (cG X gi gl o_ga vS vF sN sF) H) (gA X)) [.ref (xA X 4), .ref (xAV X (0) 0)].toArray s 0 0 (gA X)) (F0 m 35 ls []) := by
    intro n35
    induction n35 with
    | zero =>
      intro v2 v3 v4 ga H locs ls hl hP hS h
      rw [X0_fewestSpoons_35] at h
      cases h
    | succ n35 ih35 =>
      intro v2 v3 v4 ga H locs ls hl hP hS h
      rw [X0_fewestSpoons_35] at h
      have hL60 : ∀ (v2 : Int32) (v3 : Int32) (v4 : Int32) (t0 : Int32) (ga : Nat → Nat → Int32) (H : Heap) (locs : List Loc) (ls : Array Slot), lv_has ls 6 [(0, .ref (xA X 4)), (2, .int v2), (3, .int v3), (4, .int v4)] → va_P X.1 vwCl (cG X gi gl ga vS vF sN sF) H → va_S (gA X) s.heap H locs → X0_fewestSpoons_60 vS vF (X0_fewestSpoons_35 vS vF n35) v2 v3 v4 t0 ga = some (o0, o_ga) → W p l e (headSpec (Cond.code yX0_fewestSpoons cX0_fewestSpoons 6 (some .int) :: gT) { frames := 5, cells := 0, slots := 0, locals := 119 }).room s m [.ref (xA X 4), .ref (xAV X (0) 0)].toArray below meth c H locs 0 0 (MQ below (wQ (some (.int o0)) (fun H => va_P X.1 vwCl (cG X gi gl o_ga vS vF sN sF) H) (gA X)) [.ref (xA X 4), .ref (xAV X (0) 0)].toArray s 0 0 (gA X)) (F0 m 60 ls [.int t0]) := by
        intro v2 v3 v4 t0 ga H locs ls hl hP hS h
        rw [X0_fewestSpoons_60] at h
        refine lv_istore (lv' := [(5, .int t0), (0, .ref (xA X 4)), (2, .int v2), (3, .int v3), (4, .int v4)]) hx hb dX0_fewestSpoons_60 hl (by decide) rfl (fun ls hl => ?_)
        refine lv_iload hx hb dX0_fewestSpoons_62 (lv_at hl 0 rfl) ?_
        refine lv_if_eq (tgt := 89) hx hb dX0_fewestSpoons_64 (by decide) (fun c64 => ?_) (fun c64 => ?_)
        · replace h := if_t c64 h
          refine lv_iinc (v := (v4 + (1 : Int32))) (lv' := [(4, .int (v4 + (1 : Int32))), (5, .int t0), (0, .ref (xA X 4)), (2, .int v2), (3, .int v3)]) hx hb dX0_fewestSpoons_89 hl (k := 4) rfl rfl (by decide) rfl (fun ls hl => ?_)
          refine lv_goto (tgt := 35) hx hb dX0_fewestSpoons_92 (by decide) ?_
          exact ih35 v2 v3 (v4 + (1 : Int32)) ga _ _ ls (lv_sub hl [2, 3, 4, 0] rfl) hP hS h
        · replace h := if_f c64 h
          refine lv_iload hx hb dX0_fewestSpoons_67 (lv_at hl 4 rfl) ?_
          refine lv_iload_n hx hb dX0_fewestSpoons_69 rfl (lv_at hl 2 rfl) ?_
          refine lv_iconst (v := -1) hx hb dX0_fewestSpoons_70 (by decide) ?_
          refine lv_ixor hx hb dX0_fewestSpoons_71 ?_
          refine lv_iand hx hb dX0_fewestSpoons_72 ?_
          refine lv_if_ne (tgt := 89) hx hb dX0_fewestSpoons_73 (by decide) (fun c73 => ?_) (fun c73 => ?_)
          · replace h := if_f c73 h
            refine lv_iinc (v := (v4 + (1 : Int32))) (lv' := [(4, .int (v4 + (1 : Int32))), (5, .int t0), (0, .ref (xA X 4)), (2, .int v2), (3, .int v3)]) hx hb dX0_fewestSpoons_89 hl (k := 4) rfl rfl (by decide) rfl (fun ls hl => ?_)
            refine lv_goto (tgt := 35) hx hb dX0_fewestSpoons_92 (by decide) ?_
            exact ih35 v2 v3 (v4 + (1 : Int32)) ga _ _ ls (lv_sub hl [2, 3, 4, 0] rfl) hP hS h
          · replace h := if_t c73 h
            refine lv_aload_n hx hb dX0_fewestSpoons_76 rfl (lv_at hl 1 rfl) ?_
            refine lv_iload hx hb dX0_fewestSpoons_77 (lv_at hl 4 rfl) ?_
            obtain ⟨r79, hc79, h⟩ := Option.bind_eq_some_iff.mp h
            refine rcV (As := [.int v4]) (rest := []) ⟨hx, hb, hml, hown, hts⟩ (c_X0_fedByAll l X gi gl ga vS vF sN sF v4 hc79) ⟨w_611, w_613, w_4, w_54, w_614⟩ hd_X0_fedByAll rfl rfl ⟨(Nat.le_of_ble_eq_true rfl), (Nat.le_of_ble_eq_true rfl)⟩ ⟨Nat.zero_le _, Nat.zero_le _⟩ gPre_blind (va_recv hK hP (ci := 0) rfl cG_b4) (gPre_call hP hK hN hZ hS) rfl rfl hl.1 (Nat.le_of_ble_eq_true rfl) dX0_fewestSpoons_79 ?_
            refine lv_iload_n hx hb dX0_fewestSpoons_82 rfl (lv_at hl 2 rfl) ?_
            refine lv_icmp_ne (tgt := 89) hx hb dX0_fewestSpoons_83 (by decide) (fun c83 => ?_) (fun c83 => ?_)
            · replace h := if_f c83 h
              refine lv_iinc (v := (v4 + (1 : Int32))) (lv' := [(4, .int (v4 + (1 : Int32))), (5, .int t0), (0, .ref (xA X 4)), (2, .int v2), (3, .int v3)]) hx hb dX0_fewestSpoons_89 hl (k := 4) rfl rfl (by decide) rfl (fun ls hl => ?_)
              refine lv_goto (tgt := 35) hx hb dX0_fewestSpoons_92 (by decide) ?_
              exact ih35 v2 v3 (v4 + (1 : Int32)) ga _ _ ls (lv_sub hl [2, 3, 4, 0] rfl) hP hS h
            · replace h := if_t c83 h
              refine lv_iload hx hb dX0_fewestSpoons_86 (lv_at hl 4 rfl) ?_
              refine lv_istore_n (lv' := [(3, .int v4), (5, .int t0), (0, .ref (xA X 4)), (2, .int v2), (4, .int v4)]) hx hb dX0_fewestSpoons_88 rfl hl (by decide) rfl (fun ls hl => ?_)
              refine lv_iinc (v := (v4 + (1 : Int32))) (lv' := [(4, .int (v4 + (1 : Int32))), (3, .int v4), (5, .int t0), (0, .ref (xA X 4)), (2, .int v2)]) hx hb dX0_fewestSpoons_89 hl (k := 4) rfl rfl (by decide) rfl (fun ls hl => ?_)
              refine lv_goto (tgt := 35) hx hb dX0_fewestSpoons_92 (by decide) ?_
              exact ih35 v2 v4 (v4 + (1 : Int32)) ga _ _ ls (lv_sub hl [3, 4, 1, 0] rfl) hP hS h
      refine lv_iload hx hb dX0_fewestSpoons_35 (lv_at hl 3 rfl) ?_
      refine lv_sipush (v := 128) hx hb dX0_fewestSpoons_37 (by decide) ?_
      refine lv_icmp_ge (tgt := 95) hx hb dX0_fewestSpoons_40 (by decide) (fun c40 => ?_) (fun c40 => ?_)
      · replace h := if_t c40 h
        refine lv_iload_n hx hb dX0_fewestSpoons_95 rfl (lv_at hl 2 rfl) ?_
        cases h
        exact W.iret hx hb hr (fun t ht _ => ⟨rfl, by rw [ht]; exact hP, hS.F ht⟩) hS.2.2 dX0_fewestSpoons_96
      · replace h := if_f c40 h
        refine lv_iload hx hb dX0_fewestSpoons_43 (lv_at hl 3 rfl) ?_
        obtain ⟨r45, hc45, h⟩ := Option.bind_eq_some_iff.mp h
        refine rcS (As := [.int v4]) (rest := []) ⟨hx, hb, hml, hown, hts⟩ (c_J6_bitCount_0f7a4 l v4 hc45) ⟨w_415, w_357, w_63, w_358⟩ hd_J6_bitCount_0f7a4 rfl rfl ⟨(Nat.le_of_ble_eq_true rfl), (Nat.le_of_ble_eq_true rfl)⟩ ⟨Nat.zero_le _, Nat.zero_le _⟩ (fun _ _ _ _ h => h) (fun _ _ _ => trivial) rfl rfl hl.1 (Nat.le_of_ble_eq_true rfl) dX0_fewestSpoons_45 ?_
        refine lv_iload_n hx hb dX0_fewestSpoons_48 rfl (lv_at hl 2 rfl) ?_
        obtain ⟨r49, hc49, h⟩ := Option.bind_eq_some_iff.mp h
        refine rcS (As := [.int v3]) (rest := [.int r45]) ⟨hx, hb, hml, hown, hts⟩ (c_J6_bitCount_0f7a4 l v3 hc49) ⟨w_415, w_357, w_63, w_358⟩ hd_J6_bitCount_0f7a4 rfl rfl ⟨(Nat.le_of_ble_eq_true rfl), (Nat.le_of_ble_eq_true rfl)⟩ ⟨Nat.zero_le _, Nat.zero_le _⟩ (fun _ _ _ _ h => h) (fun _ _ _ => trivial) rfl rfl hl.1 (Nat.le_of_ble_eq_true rfl) dX0_fewestSpoons_49 ?_
        refine lv_icmp_ge (tgt := 59) hx hb dX0_fewestSpoons_52 (by decide) (fun c52 => ?_) (fun c52 => ?_)
        · replace h := if_t c52 h
          refine lv_iconst (v := 0) hx hb dX0_fewestSpoons_59 (by decide) ?_
          exact hL60 v2 v3 v4 (0 : Int32) ga _ _ ls (lv_sub hl [0, 1, 2, 3] rfl) hP hS h
        · replace h := if_f c52 h
          refine lv_iconst (v := 1) hx hb dX0_fewestSpoons_55 (by decide) ?_
          refine lv_goto (tgt := 60) hx hb dX0_fewestSpoons_56 (by decide) ?_
          exact hL60 v2 v3 v4 (1 : Int32) ga _ _ ls (lv_sub hl [0, 1, 2, 3] rfl) hP hS h
  have hL7 : ∀ (n7 : Nat) (v2 : Int32) (v3 : Int32) (ga : Nat → Nat → Int32) (H : Heap) (locs : List Loc) (ls : Array Slot), lv_has ls 6 [(0, .ref (xA X 4)), (1, .ref (xAV X (0) 0)), (2, .int v2), (3, .int v3)] → va_P X.1 vwCl (cG X gi gl ga vS vF sN sF) H → va_S (gA X) s.heap H locs → X0_fewestSpoons_7 vS vF n7 v2 v3 ga = some (o0, o_ga) → W p l e (headSpec (Cond.code yX0_fewestSpoons cX0_fewestSpoons 6 (some .int) :: gT) { frames := 5, cells := 0, slots := 0, locals := 119 }).room s m [.ref (xA X 4), .ref (xAV X (0) 0)].toArray below meth c H locs 0 0 (MQ below (wQ (some (.int o0)) (fun H => va_P X.1 vwCl (cG X gi gl o_ga vS vF sN sF) H) (gA X)) [.ref (xA X 4), .ref (xAV X (0) 0)].toArray s 0 0 (gA X)) (F0 m 7 ls []) := by
    intro n7
    induction n7 with
    | zero =>
      intro v2 v3 ga H locs ls hl hP hS h
      rw [X0_fewestSpoons_7] at h
      cases h
    | succ n7 ih7 =>
      intro v2 v3 ga H locs ls hl hP hS h
      rw [X0_fewestSpoons_7] at h
      refine lv_iload_n hx hb dX0_fewestSpoons_7 rfl (lv_at hl 3 rfl) ?_
      refine lv_bipush (v := 7) hx hb dX0_fewestSpoons_8 (by decide) ?_
      refine lv_icmp_ge (tgt := 30) hx hb dX0_fewestSpoons_10 (by decide) (fun c10 => ?_) (fun c10 => ?_)
      · replace h := if_t c10 h
        refine lv_iload_n hx hb dX0_fewestSpoons_30 rfl (lv_at hl 2 rfl) ?_
        refine lv_istore_n (lv' := [(3, .int v2), (0, .ref (xA X 4)), (1, .ref (xAV X (0) 0)), (2, .int v2)]) hx hb dX0_fewestSpoons_31 rfl hl (by decide) rfl (fun ls hl => ?_)
        refine lv_iconst (v := 0) hx hb dX0_fewestSpoons_32 (by decide) ?_
        refine lv_istore (lv' := [(4, .int (0 : Int32)), (3, .int v2), (0, .ref (xA X 4)), (1, .ref (xAV X (0) 0)), (2, .int v2)]) hx hb dX0_fewestSpoons_33 hl (by decide) rfl (fun ls hl => ?_)
        exact hL35 500 v2 v2 (0 : Int32) ga _ _ ls (lv_sub hl [2, 4, 1, 0] rfl) hP hS h
      · replace h := if_f c10 h
        refine lv_aload_n hx hb dX0_fewestSpoons_13 rfl (lv_at hl 0 rfl) ?_
        refine rg_F_fed hx hb hT hown hK hP w_143 dX0_fewestSpoons_14 ?_
        refine lv_iload_n hx hb dX0_fewestSpoons_17 rfl (lv_at hl 3 rfl) ?_
        refine lv_aload_n hx hb dX0_fewestSpoons_18 rfl (lv_at hl 1 rfl) ?_
        refine lv_iload_n hx hb dX0_fewestSpoons_19 rfl (lv_at hl 3 rfl) ?_
        obtain ⟨r20, hc20, h⟩ := Option.bind_eq_some_iff.mp h
        refine rcS (As := [.ref (xAV X (0) 0), .int v3]) (rest := [.int v3, .ref (xA X 6)]) ⟨hx, hb, hml, hown, hts⟩ (c_X0_fedBy l X gi gl ga vS vF sN sF v3 hc20) ⟨w_610, w_405, w_54, w_406⟩ hd_X0_fedBy rfl rfl ⟨(Nat.le_of_ble_eq_true rfl), (Nat.le_of_ble_eq_true rfl)⟩ ⟨Nat.zero_le _, Nat.zero_le _⟩ gPre_blind (gPre_call hP hK hN hZ hS) rfl rfl hl.1 (Nat.le_of_ble_eq_true rfl) dX0_fewestSpoons_20 ?_
        obtain ⟨hi23, h⟩ := gd_e h
        refine rs_g0 hx hb hK hP hN hS (ib_in hi23) dX0_fewestSpoons_23 (fun H locs hP hS => ?_)
        generalize ega_23 : va_up ga 0 (upd (ga 0) v3.toNatClampNeg r20) = ga_23 at hP
        replace h := lt_g h ega_23
        refine lv_iinc (v := (v3 + (1 : Int32))) (lv' := [(3, .int (v3 + (1 : Int32))), (0, .ref (xA X 4)), (1, .ref (xAV X (0) 0)), (2, .int v2)]) hx hb dX0_fewestSpoons_24 hl (k := 3) rfl rfl (by decide) rfl (fun ls hl => ?_)
        refine lv_goto (tgt := 7) hx hb dX0_fewestSpoons_27 (by decide) ?_
        exact ih7 v2 (v3 + (1 : Int32)) ga_23 _ _ ls (lv_sub hl [1, 2, 3, 0] rfl) hP hS h
  rw [X0_fewestSpoons] at h
  refine lv_aload_n hx hb dX0_fewestSpoons_0 rfl (lv_at hl 1 rfl) ?_
  obtain ⟨r1, hc1, h⟩ := Option.bind_eq_some_iff.mp h
  refine rcV (As := []) (rest := []) ⟨hx, hb, hml, hown, hts⟩ (c_X7_stuckSet l X gi gl ga vS vF sN sF hc1) ⟨w_609, w_391, w_392, w_53, w_393⟩ hd_X7_stuckSet rfl rfl ⟨(Nat.le_of_ble_eq_true rfl), (Nat.le_of_ble_eq_true rfl)⟩ ⟨Nat.zero_le _, Nat.zero_le _⟩ gPre_blind (va_recv hK hP (ci := 3) rfl (cG_v (by decide : 0 < 4))) (gPre_call hP hK hN hZ hS) rfl rfl hl.1 (Nat.le_of_ble_eq_true rfl) dX0_fewestSpoons_1 ?_
  refine lv_istore_n (lv' := [(2, .int r1), (0, .ref (xA X 4)), (1, .ref (xAV X (0) 0))]) hx hb dX0_fewestSpoons_4 rfl hl (by decide) rfl (fun ls hl => ?_)
  refine lv_iconst (v := 0) hx hb dX0_fewestSpoons_5 (by decide) ?_
  refine lv_istore_n (lv' := [(3, .int (0 : Int32)), (2, .int r1), (0, .ref (xA X 4)), (1, .ref (xAV X (0) 0))]) hx hb dX0_fewestSpoons_6 rfl hl (by decide) rfl (fun ls hl => ?_)
  exact hL7 500 r1 (0 : Int32) ga _ _ ls (lv_sub hl [2, 3, 1, 0] rfl) hP hS h
set_option maxRecDepth 100000 in
set_option maxHeartbeats 4000000 in
theorem c_X1_deal (l : Launch) (X : gX) (gi : Nat → Int32) (gl : Nat → Int64) (ga : Nat → Nat → Int32) (vS : Nat → Nat → Int32) (vF : Nat → Nat → Nat → Int32) (sN : Nat → Int32) (sF : Nat → Nat → Int32) (j : Nat) (hj : j < 10) (a1 : Int32) (a2 : Int32) {o_sF : Nat → Nat → Int32} (h : X1_deal vS vF sN j a1 a2 sF = some o_sF) : Met l yX1_deal (Cond.code yX1_deal cX1_deal 9 none :: gT) { frames := 2, cells := 0, slots := 0, locals := 44 } (va_Pc [.ref (xAV X (0) 0), .int a1, .int a2, .ref (xAS X j 0)] (gPre X gi gl ga vS vF sN sF)) (wQ none (fun H => va_P X.1 vwCl (cG X gi gl ga vS vF sN o_sF) H) (gA X)) 0 0 (gA X) := by
  refine Met.ofW (cc := cX1_deal) (maxL := 9) (ret := none) (by decide) rfl ?_
  intro p e s m args below meth c s₁ B hml hv
  obtain ⟨rfl, hP, hK, hN, hZ⟩ := hv
  have hx := B.exec
  have hb := B.bytes
  have hr := B.returns
  have hts := atoms_spec (ws := (Cond.code yX1_deal cX1_deal 9 none :: gT)) B.pre
  have hT : ∀ w ∈ gT, w.before _ s = true := fun w hw => hts w (List.mem_cons_of_mem _ hw)
  have hown : s.vm.findClass RX1 = some m.cls := findClass_of_methodNamed B.named
  have hlocks := B.notSynchronized
  have hS : va_S (gA X) s.heap s.heap [] := va_S.rf
  have hl := lv_entry ([.ref (xAV X (0) 0), .int a1, .int a2, .ref (xAS X j 0)]) (n := 9) (Nat.le_of_ble_eq_true rfl)
  rw [lg_entry_eq]
  generalize (lg_sl ([.ref (xAV X (0) 0), .int a1, .int a2, .ref (xAS X j 0)]) ++ List.replicate (9 - (lg_sl ([.ref (xAV X (0) 0), .int a1, .int a2, .ref (xAS X j 0)])).length) Slot.unset).toArray = ls at hl ⊢
  have hl : lv_has ls 9 [(0, .ref (xAV X (0) 0)), (1, .int a1), (2, .int a2), (3, .ref (xAS X j 0))] := hl
  have hL20 : ∀ (n20 : Nat) (v2 : Int32) (v4 : Int32) (v5 : Int32) (v6 : Int32) (v7 : Int32) (sF : Nat → Nat → Int32) (H : Heap) (locs : List Loc) (ls : Array Slot), lv_has ls 9 [(0, .ref (xAV X (0) 0)), (2, .int v2), (3, .ref (xAS X j 0)), (4, .int v4), (5, .int v5), (6, .int v6), (7, .int v7)] → va_P X.1 vwCl (cG X gi gl ga vS vF sN sF) H → va_S (gA X) s.heap H locs → X1_deal_20 vS vF sN j n20 v2 v4 v5 v6 v7 sF = some o_sF → W p l e (headSpec (Cond.code yX1_deal cX1_deal 9 none :: gT) { frames := 2, cells := 0, slots := 0, locals := 44 }).room s m [.ref (xAV X (0) 0), .int a1, .int a2, .ref (xAS X j 0)].toArray below meth c H locs 0 0 (MQ below (wQ none (fun H => va_P X.1 vwCl (cG X gi gl ga vS vF sN o_sF) H) (gA X)) [.ref (xAV X (0) 0), .int a1, .int a2, .ref (xAS X j 0)].toArray s 0 0 (gA X)) (F0 m 20 ls []) := by
    intro n20
    induction n20 with
    | zero =>
      intro v2 v4 v5 v6 v7 sF H locs ls hl hP hS h
      rw [X1_deal_20] at h
      cases h
    | succ n20 ih20 =>
      intro v2 v4 v5 v6 v7 sF H locs ls hl hP hS h
      rw [X1_deal_20] at h
      refine lv_iload hx hb dX1_deal_20 (lv_at hl 6 rfl) ?_
      refine lv_aload_n hx hb dX1_deal_22 rfl (lv_at hl 0 rfl) ?_
      refine rg_V_people (q := (0)) hx hb hT hown hK hP (by decide : 0 < 4) w_85 dX1_deal_23 ?_
      refine lv_icmp_ge (tgt := 92) hx hb dX1_deal_26 (by decide) (fun c26 => ?_) (fun c26 => ?_)
      · replace h := if_t c26 h
        cases h
        exact W.vret hx hb hr (fun t ht _ => ⟨rfl, by rw [ht]; exact hP, hS.F ht⟩) hS.2.2 dX1_deal_92
      · replace h := if_f c26 h
        refine lv_iload hx hb dX1_deal_29 (lv_at hl 4 rfl) ?_
        refine lv_if_le (tgt := 86) hx hb dX1_deal_31 (by decide) (fun c31 => ?_) (fun c31 => ?_)
        · replace h := if_t c31 h
          refine lv_iinc (v := (v7 + (1 : Int32))) (lv' := [(7, .int (v7 + (1 : Int32))), (0, .ref (xAV X (0) 0)), (2, .int v2), (3, .ref (xAS X j 0)), (4, .int v4), (5, .int v5), (6, .int v6)]) hx hb dX1_deal_86 hl (k := 6) rfl rfl (by decide) rfl (fun ls hl => ?_)
          refine lv_goto (tgt := 20) hx hb dX1_deal_89 (by decide) ?_
          exact ih20 v2 v4 v5 v6 (v7 + (1 : Int32)) sF _ _ ls (lv_sub hl [1, 2, 3, 4, 5, 6, 0] rfl) hP hS h
        · replace h := if_f c31 h
          refine lv_aload_n hx hb dX1_deal_34 rfl (lv_at hl 2 rfl) ?_
          refine lv_iload hx hb dX1_deal_35 (lv_at hl 6 rfl) ?_
          obtain ⟨r37, hc37, h⟩ := Option.bind_eq_some_iff.mp h
          refine rcV (As := [.int v7]) (rest := []) ⟨hx, hb, hml, hown, hts⟩ (c_X6_has l X gi gl ga vS vF sN sF j hj v7 hc37) ⟨w_684, w_247, w_248, w_56, w_249⟩ hd_X6_has rfl rfl ⟨(Nat.le_of_ble_eq_true rfl), (Nat.le_of_ble_eq_true rfl)⟩ ⟨Nat.zero_le _, Nat.zero_le _⟩ gPre_blind (va_recv hK hP (ci := 2) rfl (cG_s hj)) (gPre_call hP hK hN hZ hS) rfl rfl hl.1 (Nat.le_of_ble_eq_true rfl) dX1_deal_37 ?_
          refine lv_if_eq (tgt := 86) hx hb dX1_deal_40 (by decide) (fun c40 => ?_) (fun c40 => ?_)
          · replace h := if_t c40 h
            refine lv_iinc (v := (v7 + (1 : Int32))) (lv' := [(7, .int (v7 + (1 : Int32))), (0, .ref (xAV X (0) 0)), (2, .int v2), (3, .ref (xAS X j 0)), (4, .int v4), (5, .int v5), (6, .int v6)]) hx hb dX1_deal_86 hl (k := 6) rfl rfl (by decide) rfl (fun ls hl => ?_)
            refine lv_goto (tgt := 20) hx hb dX1_deal_89 (by decide) ?_
            exact ih20 v2 v4 v5 v6 (v7 + (1 : Int32)) sF _ _ ls (lv_sub hl [1, 2, 3, 4, 5, 6, 0] rfl) hP hS h
          · replace h := if_f c40 h
            refine lv_iload hx hb dX1_deal_43 (lv_at hl 3 rfl) ?_
            refine lv_iload hx hb dX1_deal_45 (lv_at hl 6 rfl) ?_
            refine lv_ishr hx hb dX1_deal_47 ?_
            refine lv_iconst (v := 1) hx hb dX1_deal_48 (by decide) ?_
            refine lv_iand hx hb dX1_deal_49 ?_
            refine lv_if_eq (tgt := 86) hx hb dX1_deal_50 (by decide) (fun c50 => ?_) (fun c50 => ?_)
            · replace h := if_t c50 h
              refine lv_iinc (v := (v7 + (1 : Int32))) (lv' := [(7, .int (v7 + (1 : Int32))), (0, .ref (xAV X (0) 0)), (2, .int v2), (3, .ref (xAS X j 0)), (4, .int v4), (5, .int v5), (6, .int v6)]) hx hb dX1_deal_86 hl (k := 6) rfl rfl (by decide) rfl (fun ls hl => ?_)
              refine lv_goto (tgt := 20) hx hb dX1_deal_89 (by decide) ?_
              exact ih20 v2 v4 v5 v6 (v7 + (1 : Int32)) sF _ _ ls (lv_sub hl [1, 2, 3, 4, 5, 6, 0] rfl) hP hS h
            · replace h := if_f c50 h
              refine lv_iload hx hb dX1_deal_53 (lv_at hl 5 rfl) ?_
              refine lv_iload_n hx hb dX1_deal_55 rfl (lv_at hl 1 rfl) ?_
              refine lv_iload hx hb dX1_deal_56 (lv_at hl 4 rfl) ?_
              obtain ⟨hne58, h⟩ := gn_e h
              refine lv_irem hx hb dX1_deal_58 hne58 ?_
              refine lv_icmp_ge (tgt := 66) hx hb dX1_deal_59 (by decide) (fun c59 => ?_) (fun c59 => ?_)
              · replace h := if_t c59 h
                refine lv_iconst (v := 0) hx hb dX1_deal_66 (by decide) ?_
                refine lv_istore (lv' := [(8, .int (0 : Int32)), (0, .ref (xAV X (0) 0)), (2, .int v2), (3, .ref (xAS X j 0)), (4, .int v4), (5, .int v5), (6, .int v6), (7, .int v7)]) hx hb dX1_deal_67 hl (by decide) rfl (fun ls hl => ?_)
                refine lv_aload_n hx hb dX1_deal_69 rfl (lv_at hl 3 rfl) ?_
                refine rg_S_cells (j := j) hx hb hT hown hK hP hj w_176 dX1_deal_70 ?_
                refine lv_iload hx hb dX1_deal_73 (lv_at hl 7 rfl) ?_
                refine lv_iload_n hx hb dX1_deal_75 rfl (lv_at hl 2 rfl) ?_
                refine lv_iload hx hb dX1_deal_76 (lv_at hl 5 rfl) ?_
                obtain ⟨hne78, h⟩ := gn_e h
                refine lv_idiv hx hb dX1_deal_78 hne78 ?_
                refine lv_iload hx hb dX1_deal_79 (lv_at hl 0 rfl) ?_
                refine lv_iadd hx hb dX1_deal_81 ?_
                obtain ⟨hi82, h⟩ := gd_e h
                refine rs_s (j := j) hx hb hK hP hN hS hj (ib_in hi82) dX1_deal_82 (fun H locs hP hS => ?_)
                generalize esF_82 : va_up sF j (upd (sF j) v7.toNatClampNeg ((v2 / v5) + (0 : Int32))) = sF_82 at hP
                replace h := lt_g h esF_82
                refine lv_iinc (v := (v6 + (1 : Int32))) (lv' := [(6, .int (v6 + (1 : Int32))), (8, .int (0 : Int32)), (0, .ref (xAV X (0) 0)), (2, .int v2), (3, .ref (xAS X j 0)), (4, .int v4), (5, .int v5), (7, .int v7)]) hx hb dX1_deal_83 hl (k := 6) rfl rfl (by decide) rfl (fun ls hl => ?_)
                refine lv_iinc (v := (v7 + (1 : Int32))) (lv' := [(7, .int (v7 + (1 : Int32))), (6, .int (v6 + (1 : Int32))), (8, .int (0 : Int32)), (0, .ref (xAV X (0) 0)), (2, .int v2), (3, .ref (xAS X j 0)), (4, .int v4), (5, .int v5)]) hx hb dX1_deal_86 hl (k := 7) rfl rfl (by decide) rfl (fun ls hl => ?_)
                refine lv_goto (tgt := 20) hx hb dX1_deal_89 (by decide) ?_
                exact ih20 v2 v4 v5 (v6 + (1 : Int32)) (v7 + (1 : Int32)) sF_82 _ _ ls (lv_sub hl [3, 4, 5, 6, 7, 1, 0] rfl) hP hS h
              · replace h := if_f c59 h
                refine lv_iconst (v := 1) hx hb dX1_deal_62 (by decide) ?_
                refine lv_goto (tgt := 67) hx hb dX1_deal_63 (by decide) ?_
                refine lv_istore (lv' := [(8, .int (1 : Int32)), (0, .ref (xAV X (0) 0)), (2, .int v2), (3, .ref (xAS X j 0)), (4, .int v4), (5, .int v5), (6, .int v6), (7, .int v7)]) hx hb dX1_deal_67 hl (by decide) rfl (fun ls hl => ?_)
                refine lv_aload_n hx hb dX1_deal_69 rfl (lv_at hl 3 rfl) ?_
                refine rg_S_cells (j := j) hx hb hT hown hK hP hj w_176 dX1_deal_70 ?_
                refine lv_iload hx hb dX1_deal_73 (lv_at hl 7 rfl) ?_
                refine lv_iload_n hx hb dX1_deal_75 rfl (lv_at hl 2 rfl) ?_
                refine lv_iload hx hb dX1_deal_76 (lv_at hl 5 rfl) ?_
                obtain ⟨hne78, h⟩ := gn_e h
                refine lv_idiv hx hb dX1_deal_78 hne78 ?_
                refine lv_iload hx hb dX1_deal_79 (lv_at hl 0 rfl) ?_
                refine lv_iadd hx hb dX1_deal_81 ?_
                obtain ⟨hi82, h⟩ := gd_e h
                refine rs_s (j := j) hx hb hK hP hN hS hj (ib_in hi82) dX1_deal_82 (fun H locs hP hS => ?_)
                generalize esF_82 : va_up sF j (upd (sF j) v7.toNatClampNeg ((v2 / v5) + (1 : Int32))) = sF_82 at hP
                replace h := lt_g h esF_82
                refine lv_iinc (v := (v6 + (1 : Int32))) (lv' := [(6, .int (v6 + (1 : Int32))), (8, .int (1 : Int32)), (0, .ref (xAV X (0) 0)), (2, .int v2), (3, .ref (xAS X j 0)), (4, .int v4), (5, .int v5), (7, .int v7)]) hx hb dX1_deal_83 hl (k := 6) rfl rfl (by decide) rfl (fun ls hl => ?_)
                refine lv_iinc (v := (v7 + (1 : Int32))) (lv' := [(7, .int (v7 + (1 : Int32))), (6, .int (v6 + (1 : Int32))), (8, .int (1 : Int32)), (0, .ref (xAV X (0) 0)), (2, .int v2), (3, .ref (xAS X j 0)), (4, .int v4), (5, .int v5)]) hx hb dX1_deal_86 hl (k := 7) rfl rfl (by decide) rfl (fun ls hl => ?_)
                refine lv_goto (tgt := 20) hx hb dX1_deal_89 (by decide) ?_
                exact ih20 v2 v4 v5 (v6 + (1 : Int32)) (v7 + (1 : Int32)) sF_82 _ _ ls (lv_sub hl [3, 4, 5, 6, 7, 1, 0] rfl) hP hS h
  rw [X1_deal] at h
  refine lv_aload_n hx hb dX1_deal_0 rfl (lv_at hl 0 rfl) ?_
  refine lv_iload_n hx hb dX1_deal_1 rfl (lv_at hl 1 rfl) ?_
  obtain ⟨r2, hc2, h⟩ := Option.bind_eq_some_iff.mp h
  refine rcV (As := [.int a1]) (rest := []) ⟨hx, hb, hml, hown, hts⟩ (c_X7_hangers l X gi gl ga vS vF sN sF a1 hc2) ⟨w_682, w_400, w_401, w_53, w_402⟩ hd_X7_hangers rfl rfl ⟨(Nat.le_of_ble_eq_true rfl), (Nat.le_of_ble_eq_true rfl)⟩ ⟨Nat.zero_le _, Nat.zero_le _⟩ gPre_blind (va_recv hK hP (ci := 3) rfl (cG_v (by decide : 0 < 4))) (gPre_call hP hK hN hZ hS) rfl rfl hl.1 (Nat.le_of_ble_eq_true rfl) dX1_deal_2 ?_
  refine lv_istore (lv' := [(4, .int r2), (0, .ref (xAV X (0) 0)), (1, .int a1), (2, .int a2), (3, .ref (xAS X j 0))]) hx hb dX1_deal_5 hl (by decide) rfl (fun ls hl => ?_)
  refine lv_iload hx hb dX1_deal_7 (lv_at hl 0 rfl) ?_
  obtain ⟨r9, hc9, h⟩ := Option.bind_eq_some_iff.mp h
  refine rcS (As := [.int r2]) (rest := []) ⟨hx, hb, hml, hown, hts⟩ (c_J6_bitCount_0f7a4 l r2 hc9) ⟨w_683, w_357, w_63, w_358⟩ hd_J6_bitCount_0f7a4 rfl rfl ⟨(Nat.le_of_ble_eq_true rfl), (Nat.le_of_ble_eq_true rfl)⟩ ⟨Nat.zero_le _, Nat.zero_le _⟩ (fun _ _ _ _ h => h) (fun _ _ _ => trivial) rfl rfl hl.1 (Nat.le_of_ble_eq_true rfl) dX1_deal_9 ?_
  refine lv_istore (lv' := [(5, .int r9), (4, .int r2), (0, .ref (xAV X (0) 0)), (1, .int a1), (2, .int a2), (3, .ref (xAS X j 0))]) hx hb dX1_deal_12 hl (by decide) rfl (fun ls hl => ?_)
  refine lv_iconst (v := 0) hx hb dX1_deal_14 (by decide) ?_
  refine lv_istore (lv' := [(6, .int (0 : Int32)), (5, .int r9), (4, .int r2), (0, .ref (xAV X (0) 0)), (1, .int a1), (2, .int a2), (3, .ref (xAS X j 0))]) hx hb dX1_deal_15 hl (by decide) rfl (fun ls hl => ?_)
  refine lv_iconst (v := 0) hx hb dX1_deal_17 (by decide) ?_
  refine lv_istore (lv' := [(7, .int (0 : Int32)), (6, .int (0 : Int32)), (5, .int r9), (4, .int r2), (0, .ref (xAV X (0) 0)), (1, .int a1), (2, .int a2), (3, .ref (xAS X j 0))]) hx hb dX1_deal_18 hl (by decide) rfl (fun ls hl => ?_)
  exact hL20 500 a2 r2 r9 (0 : Int32) (0 : Int32) sF _ _ ls (lv_sub hl [4, 6, 7, 3, 2, 1, 0] rfl) hP hS h
set_option maxRecDepth 100000 in
set_option maxHeartbeats 4000000 in
theorem c_X1_dealAtDepth (l : Launch) (X : gX) (gi : Nat → Int32) (gl : Nat → Int64) (ga : Nat → Nat → Int32) (vS : Nat → Nat → Int32) (vF : Nat → Nat → Nat → Int32) (sN : Nat → Int32) (sF : Nat → Nat → Int32) (j : Nat) (hj : j < 10) (a1 : Int32) {o_sF : Nat → Nat → Int32} (h : X1_dealAtDepth vS vF sN j a1 sF = some o_sF) : Met l yX1_dealAtDepth (Cond.code yX1_dealAtDepth cX1_dealAtDepth 5 none :: gT) { frames := 3, cells := 0, slots := 0, locals := 72 } (va_Pc [.ref (xAV X (0) 0), .int a1, .ref (xAS X j 0)] (gPre X gi gl ga vS vF sN sF)) (wQ none (fun H => va_P X.1 vwCl (cG X gi gl ga vS vF sN o_sF) H) (gA X)) 0 0 (gA X) := by
  refine Met.ofW (cc := cX1_dealAtDepth) (maxL := 5) (ret := none) (by decide) rfl ?_
  intro p e s m args below meth c s₁ B hml hv
  obtain ⟨rfl, hP, hK, hN, hZ⟩ := hv
  have hx := B.exec
  have hb := B.bytes
  have hr := B.returns
  have hts := atoms_spec (ws := (Cond.code yX1_dealAtDepth cX1_dealAtDepth 5 none :: gT)) B.pre
  have hT : ∀ w ∈ gT, w.before _ s = true := fun w hw => hts w (List.mem_cons_of_mem _ hw)
  have hown : s.vm.findClass RX1 = some m.cls := findClass_of_methodNamed B.named
  have hlocks := B.notSynchronized
  have hS : va_S (gA X) s.heap s.heap [] := va_S.rf
  have hl := lv_entry ([.ref (xAV X (0) 0), .int a1, .ref (xAS X j 0)]) (n := 5) (Nat.le_of_ble_eq_true rfl)
  rw [lg_entry_eq]
  generalize (lg_sl ([.ref (xAV X (0) 0), .int a1, .ref (xAS X j 0)]) ++ List.replicate (5 - (lg_sl ([.ref (xAV X (0) 0), .int a1, .ref (xAS X j 0)])).length) Slot.unset).toArray = ls at hl ⊢
  have hl : lv_has ls 5 [(0, .ref (xAV X (0) 0)), (1, .int a1), (2, .ref (xAS X j 0))] := hl
  have hL2 : ∀ (n2 : Nat) (v1 : Int32) (v3 : Int32) (sF : Nat → Nat → Int32) (H : Heap) (locs : List Loc) (ls : Array Slot), lv_has ls 5 [(0, .ref (xAV X (0) 0)), (1, .int v1), (2, .ref (xAS X j 0)), (3, .int v3)] → va_P X.1 vwCl (cG X gi gl ga vS vF sN sF) H → va_S (gA X) s.heap H locs → X1_dealAtDepth_2 vS vF sN j n2 v1 v3 sF = some o_sF → W p l e (headSpec (Cond.code yX1_dealAtDepth cX1_dealAtDepth 5 none :: gT) { frames := 3, cells := 0, slots := 0, locals := 72 }).room s m [.ref (xAV X (0) 0), .int a1, .ref (xAS X j 0)].toArray below meth c H locs 0 0 (MQ below (wQ none (fun H => va_P X.1 vwCl (cG X gi gl ga vS vF sN o_sF) H) (gA X)) [.ref (xAV X (0) 0), .int a1, .ref (xAS X j 0)].toArray s 0 0 (gA X)) (F0 m 2 ls []) := by
    intro n2
    induction n2 with
    | zero =>
      intro v1 v3 sF H locs ls hl hP hS h
      rw [X1_dealAtDepth_2] at h
      cases h
    | succ n2 ih2 =>
      intro v1 v3 sF H locs ls hl hP hS h
      rw [X1_dealAtDepth_2] at h
      have hL32 : ∀ (v1 : Int32) (v3 : Int32) (t0 : Int32) (sF : Nat → Nat → Int32) (H : Heap) (locs : List Loc) (ls : Array Slot), lv_has ls 5 [(0, .ref (xAV X (0) 0)), (1, .int v1), (2, .ref (xAS X j 0)), (3, .int v3)] → va_P X.1 vwCl (cG X gi gl ga vS vF sN sF) H → va_S (gA X) s.heap H locs → X1_dealAtDepth_32 vS vF sN j (X1_dealAtDepth_2 vS vF sN j n2) v1 v3 t0 sF = some o_sF → W p l e (headSpec (Cond.code yX1_dealAtDepth cX1_dealAtDepth 5 none :: gT) { frames := 3, cells := 0, slots := 0, locals := 72 }).room s m [.ref (xAV X (0) 0), .int a1, .ref (xAS X j 0)].toArray below meth c H locs 0 0 (MQ below (wQ none (fun H => va_P X.1 vwCl (cG X gi gl ga vS vF sN o_sF) H) (gA X)) [.ref (xAV X (0) 0), .int a1, .ref (xAS X j 0)].toArray s 0 0 (gA X)) (F0 m 32 ls [.int t0]) := by
        intro v1 v3 t0 sF H locs ls hl hP hS h
        rw [X1_dealAtDepth_32] at h
        refine lv_istore (lv' := [(4, .int t0), (0, .ref (xAV X (0) 0)), (1, .int v1), (2, .ref (xAS X j 0)), (3, .int v3)]) hx hb dX1_dealAtDepth_32 hl (by decide) rfl (fun ls hl => ?_)
        refine lv_iload hx hb dX1_dealAtDepth_34 (lv_at hl 0 rfl) ?_
        refine lv_if_eq (tgt := 78) hx hb dX1_dealAtDepth_36 (by decide) (fun c36 => ?_) (fun c36 => ?_)
        · replace h := if_t c36 h
          refine lv_iinc (v := (v3 + (1 : Int32))) (lv' := [(3, .int (v3 + (1 : Int32))), (4, .int t0), (0, .ref (xAV X (0) 0)), (1, .int v1), (2, .ref (xAS X j 0))]) hx hb dX1_dealAtDepth_78 hl (k := 4) rfl rfl (by decide) rfl (fun ls hl => ?_)
          refine lv_goto (tgt := 2) hx hb dX1_dealAtDepth_81 (by decide) ?_
          exact ih2 v1 (v3 + (1 : Int32)) sF _ _ ls (lv_sub hl [2, 3, 4, 0] rfl) hP hS h
        · replace h := if_f c36 h
          refine lv_aload_n hx hb dX1_dealAtDepth_39 rfl (lv_at hl 3 rfl) ?_
          refine lv_iload_n hx hb dX1_dealAtDepth_40 rfl (lv_at hl 4 rfl) ?_
          obtain ⟨r41, hc41, h⟩ := Option.bind_eq_some_iff.mp h
          refine rcV (As := [.int v3]) (rest := []) ⟨hx, hb, hml, hown, hts⟩ (c_X6_has l X gi gl ga vS vF sN sF j hj v3 hc41) ⟨w_684, w_247, w_248, w_56, w_249⟩ hd_X6_has rfl rfl ⟨(Nat.le_of_ble_eq_true rfl), (Nat.le_of_ble_eq_true rfl)⟩ ⟨Nat.zero_le _, Nat.zero_le _⟩ gPre_blind (va_recv hK hP (ci := 2) rfl (cG_s hj)) (gPre_call hP hK hN hZ hS) rfl rfl hl.1 (Nat.le_of_ble_eq_true rfl) dX1_dealAtDepth_41 ?_
          refine lv_if_eq (tgt := 78) hx hb dX1_dealAtDepth_44 (by decide) (fun c44 => ?_) (fun c44 => ?_)
          · replace h := if_t c44 h
            refine lv_iinc (v := (v3 + (1 : Int32))) (lv' := [(3, .int (v3 + (1 : Int32))), (4, .int t0), (0, .ref (xAV X (0) 0)), (1, .int v1), (2, .ref (xAS X j 0))]) hx hb dX1_dealAtDepth_78 hl (k := 4) rfl rfl (by decide) rfl (fun ls hl => ?_)
            refine lv_goto (tgt := 2) hx hb dX1_dealAtDepth_81 (by decide) ?_
            exact ih2 v1 (v3 + (1 : Int32)) sF _ _ ls (lv_sub hl [2, 3, 4, 0] rfl) hP hS h
          · replace h := if_f c44 h
            refine lv_aload_n hx hb dX1_dealAtDepth_47 rfl (lv_at hl 3 rfl) ?_
            refine rg_S_cells (j := j) hx hb hT hown hK hP hj w_176 dX1_dealAtDepth_48 ?_
            refine lv_iload_n hx hb dX1_dealAtDepth_51 rfl (lv_at hl 4 rfl) ?_
            obtain ⟨hi52, h⟩ := gd_e h
            refine ra_s (j := j) hx hb hK hP hj (ib_in hi52) dX1_dealAtDepth_52 ?_
            refine lv_iconst (v := 1) hx hb dX1_dealAtDepth_53 (by decide) ?_
            refine lv_icmp_le (tgt := 78) hx hb dX1_dealAtDepth_54 (by decide) (fun c54 => ?_) (fun c54 => ?_)
            · replace h := if_t c54 h
              refine lv_iinc (v := (v3 + (1 : Int32))) (lv' := [(3, .int (v3 + (1 : Int32))), (4, .int t0), (0, .ref (xAV X (0) 0)), (1, .int v1), (2, .ref (xAS X j 0))]) hx hb dX1_dealAtDepth_78 hl (k := 4) rfl rfl (by decide) rfl (fun ls hl => ?_)
              refine lv_goto (tgt := 2) hx hb dX1_dealAtDepth_81 (by decide) ?_
              exact ih2 v1 (v3 + (1 : Int32)) sF _ _ ls (lv_sub hl [2, 3, 4, 0] rfl) hP hS h
            · replace h := if_f c54 h
              refine lv_aload_n hx hb dX1_dealAtDepth_57 rfl (lv_at hl 1 rfl) ?_
              refine lv_iload_n hx hb dX1_dealAtDepth_58 rfl (lv_at hl 4 rfl) ?_
              refine lv_aload_n hx hb dX1_dealAtDepth_59 rfl (lv_at hl 3 rfl) ?_
              refine rg_S_cells (j := j) hx hb hT hown hK hP hj w_176 dX1_dealAtDepth_60 ?_
              refine lv_iload_n hx hb dX1_dealAtDepth_63 rfl (lv_at hl 4 rfl) ?_
              obtain ⟨hi64, h⟩ := gd_e h
              refine ra_s (j := j) hx hb hK hP hj (ib_in hi64) dX1_dealAtDepth_64 ?_
              refine lv_iconst (v := 1) hx hb dX1_dealAtDepth_65 (by decide) ?_
              refine lv_isub hx hb dX1_dealAtDepth_66 ?_
              refine lv_aload_n hx hb dX1_dealAtDepth_67 rfl (lv_at hl 3 rfl) ?_
              obtain ⟨sF_68, hc68, h⟩ := Option.bind_eq_some_iff.mp h
              refine wcS (As := [.ref (xAV X (0) 0), .int v3, .int ((sF j v3.toNatClampNeg) - (1 : Int32)), .ref (xAS X j 0)]) (rest := []) ⟨hx, hb, hml, hown, hts⟩ (c_X1_deal l X gi gl ga vS vF sN sF j hj v3 ((sF j v3.toNatClampNeg) - (1 : Int32)) hc68) ⟨w_689, w_680, w_65, w_681⟩ hd_X1_deal rfl rfl ⟨(Nat.le_of_ble_eq_true rfl), (Nat.le_of_ble_eq_true rfl)⟩ ⟨Nat.zero_le _, Nat.zero_le _⟩ gPre_blind (gPre_call hP hK hN hZ hS) hS (fun _ h => h) rfl rfl hl.1 (Nat.le_of_ble_eq_true rfl) dX1_dealAtDepth_68 (fun H locs hP _ hS => ?_)
              have hP : va_P X.1 vwCl (cG X gi gl ga vS vF sN sF_68) H := hP
              refine W.eq (g2 := F0 m 71 ls []) rfl ?_
              refine lv_aload_n hx hb dX1_dealAtDepth_71 rfl (lv_at hl 3 rfl) ?_
              refine rg_S_cells (j := j) hx hb hT hown hK hP hj w_176 dX1_dealAtDepth_72 ?_
              refine lv_iload_n hx hb dX1_dealAtDepth_75 rfl (lv_at hl 4 rfl) ?_
              refine lv_iconst (v := 1) hx hb dX1_dealAtDepth_76 (by decide) ?_
              obtain ⟨hi77, h⟩ := gd_e h
              refine rs_s (j := j) hx hb hK hP hN hS hj (ib_in hi77) dX1_dealAtDepth_77 (fun H locs hP hS => ?_)
              generalize esF_77 : va_up sF_68 j (upd (sF_68 j) v3.toNatClampNeg (1 : Int32)) = sF_77 at hP
              replace h := lt_g h esF_77
              refine lv_iinc (v := (v3 + (1 : Int32))) (lv' := [(3, .int (v3 + (1 : Int32))), (4, .int t0), (0, .ref (xAV X (0) 0)), (1, .int v1), (2, .ref (xAS X j 0))]) hx hb dX1_dealAtDepth_78 hl (k := 4) rfl rfl (by decide) rfl (fun ls hl => ?_)
              refine lv_goto (tgt := 2) hx hb dX1_dealAtDepth_81 (by decide) ?_
              exact ih2 v1 (v3 + (1 : Int32)) sF_77 _ _ ls (lv_sub hl [2, 3, 4, 0] rfl) hP hS h
      refine lv_iload_n hx hb dX1_dealAtDepth_2 rfl (lv_at hl 3 rfl) ?_
      refine lv_aload_n hx hb dX1_dealAtDepth_3 rfl (lv_at hl 0 rfl) ?_
      refine rg_V_people (q := (0)) hx hb hT hown hK hP (by decide : 0 < 4) w_85 dX1_dealAtDepth_4 ?_
      refine lv_icmp_ge (tgt := 84) hx hb dX1_dealAtDepth_7 (by decide) (fun c7 => ?_) (fun c7 => ?_)
      · replace h := if_t c7 h
        cases h
        exact W.vret hx hb hr (fun t ht _ => ⟨rfl, by rw [ht]; exact hP, hS.F ht⟩) hS.2.2 dX1_dealAtDepth_84
      · replace h := if_f c7 h
        refine lv_aload_n hx hb dX1_dealAtDepth_10 rfl (lv_at hl 0 rfl) ?_
        refine lv_iload_n hx hb dX1_dealAtDepth_11 rfl (lv_at hl 3 rfl) ?_
        obtain ⟨r12, hc12, h⟩ := Option.bind_eq_some_iff.mp h
        refine rcV (As := [.int v3]) (rest := []) ⟨hx, hb, hml, hown, hts⟩ (c_X7_depth l X gi gl ga vS vF sN sF v3 hc12) ⟨w_688, w_345, w_346, w_53, w_347⟩ hd_X7_depth rfl rfl ⟨(Nat.le_of_ble_eq_true rfl), (Nat.le_of_ble_eq_true rfl)⟩ ⟨Nat.zero_le _, Nat.zero_le _⟩ gPre_blind (va_recv hK hP (ci := 3) rfl (cG_v (by decide : 0 < 4))) (gPre_call hP hK hN hZ hS) rfl rfl hl.1 (Nat.le_of_ble_eq_true rfl) dX1_dealAtDepth_12 ?_
        refine lv_iload_n hx hb dX1_dealAtDepth_15 rfl (lv_at hl 1 rfl) ?_
        refine lv_icmp_ne (tgt := 31) hx hb dX1_dealAtDepth_16 (by decide) (fun c16 => ?_) (fun c16 => ?_)
        · replace h := if_f c16 h
          refine lv_iconst (v := 0) hx hb dX1_dealAtDepth_31 (by decide) ?_
          exact hL32 v1 v3 (0 : Int32) sF _ _ ls (lv_sub hl [0, 1, 2, 3] rfl) hP hS h
        · replace h := if_t c16 h
          refine lv_aload_n hx hb dX1_dealAtDepth_19 rfl (lv_at hl 0 rfl) ?_
          refine lv_iload_n hx hb dX1_dealAtDepth_20 rfl (lv_at hl 3 rfl) ?_
          obtain ⟨r21, hc21, h⟩ := Option.bind_eq_some_iff.mp h
          refine rcV (As := [.int v3]) (rest := []) ⟨hx, hb, hml, hown, hts⟩ (c_X7_hangers l X gi gl ga vS vF sN sF v3 hc21) ⟨w_682, w_400, w_401, w_53, w_402⟩ hd_X7_hangers rfl rfl ⟨(Nat.le_of_ble_eq_true rfl), (Nat.le_of_ble_eq_true rfl)⟩ ⟨Nat.zero_le _, Nat.zero_le _⟩ gPre_blind (va_recv hK hP (ci := 3) rfl (cG_v (by decide : 0 < 4))) (gPre_call hP hK hN hZ hS) rfl rfl hl.1 (Nat.le_of_ble_eq_true rfl) dX1_dealAtDepth_21 ?_
          refine lv_if_eq (tgt := 31) hx hb dX1_dealAtDepth_24 (by decide) (fun c24 => ?_) (fun c24 => ?_)
          · replace h := if_t c24 h
            refine lv_iconst (v := 0) hx hb dX1_dealAtDepth_31 (by decide) ?_
            exact hL32 v1 v3 (0 : Int32) sF _ _ ls (lv_sub hl [0, 1, 2, 3] rfl) hP hS h
          · replace h := if_f c24 h
            refine lv_iconst (v := 1) hx hb dX1_dealAtDepth_27 (by decide) ?_
            refine lv_goto (tgt := 32) hx hb dX1_dealAtDepth_28 (by decide) ?_
            exact hL32 v1 v3 (1 : Int32) sF _ _ ls (lv_sub hl [0, 1, 2, 3] rfl) hP hS h
  rw [X1_dealAtDepth] at h
  refine lv_iconst (v := 0) hx hb dX1_dealAtDepth_0 (by decide) ?_
  refine lv_istore_n (lv' := [(3, .int (0 : Int32)), (0, .ref (xAV X (0) 0)), (1, .int a1), (2, .ref (xAS X j 0))]) hx hb dX1_dealAtDepth_1 rfl hl (by decide) rfl (fun ls hl => ?_)
  exact hL2 500 a1 (0 : Int32) sF _ _ ls (lv_sub hl [1, 2, 3, 0] rfl) hP hS h
set_option maxRecDepth 100000 in
set_option maxHeartbeats 4000000 in
theorem c_X3_with (l : Launch) (a0 : Int32) (a1 : Int32) {o0 : Int32} (h : X3_with a0 a1 = some o0) : Met l yX3_with (Cond.code yX3_with cX3_with 2 (some .int) :: gT) { frames := 0, cells := 0, slots := 0, locals := 0 } (va_Pc [.int a0, .int a1] (fun _ => True)) (k2_QcV (.int o0)) 0 0 (fun _ => False) := by
  refine Met.ofW (cc := cX3_with) (maxL := 2) (ret := (some .int)) (by decide) rfl ?_
  intro p e s m args below meth c s₁ B hml hv
  obtain ⟨rfl, -⟩ := hv
  have hx := B.exec
  have hb := B.bytes
  have hr := B.returns
  have hts := atoms_spec (ws := (Cond.code yX3_with cX3_with 2 (some .int) :: gT)) B.pre
  have hT : ∀ w ∈ gT, w.before _ s = true := fun w hw => hts w (List.mem_cons_of_mem _ hw)
  have hown : s.vm.findClass RX3 = some m.cls := findClass_of_methodNamed B.named
  have hlocks := B.notSynchronized
  have hl := lv_entry ([.int a0, .int a1]) (n := 2) (Nat.le_of_ble_eq_true rfl)
  rw [lg_entry_eq]
  generalize (lg_sl ([.int a0, .int a1]) ++ List.replicate (2 - (lg_sl ([.int a0, .int a1])).length) Slot.unset).toArray = ls at hl ⊢
  have hl : lv_has ls 2 [(0, .int a0), (1, .int a1)] := hl
  rw [X3_with] at h
  refine lv_iload_n hx hb dX3_with_0 rfl (lv_at hl 0 rfl) ?_
  refine lv_iconst (v := 1) hx hb dX3_with_1 (by decide) ?_
  refine lv_iload_n hx hb dX3_with_2 rfl (lv_at hl 1 rfl) ?_
  refine lv_ishl hx hb dX3_with_3 ?_
  refine lv_ior hx hb dX3_with_4 ?_
  refine lv_bipush (v := 127) hx hb dX3_with_5 (by decide) ?_
  refine lv_iand hx hb dX3_with_7 ?_
  cases h
  exact W.iret hx hb hr (fun t ht _ => ⟨rfl, ht⟩) (fun _ hq => by cases hq) dX3_with_8
set_option maxRecDepth 100000 in
set_option maxHeartbeats 4000000 in
theorem c_X3_canFollow (l : Launch) (X : gX) (gi : Nat → Int32) (gl : Nat → Int64) (ga : Nat → Nat → Int32) (vS : Nat → Nat → Int32) (vF : Nat → Nat → Nat → Int32) (sN : Nat → Int32) (sF : Nat → Nat → Int32) (a1 : Int32) (a2 : Int32) {o0 : Int32} (h : X3_canFollow gi ga a1 a2 = some o0) : Met l yX3_canFollow (Cond.code yX3_canFollow cX3_canFollow 4 (some .boolean) :: gT) { frames := 0, cells := 0, slots := 0, locals := 0 } (va_Pc [.ref (xA X 5), .int a1, .int a2] (gPre X gi gl ga vS vF sN sF)) (k2_QcV (.int o0)) 0 0 (fun _ => False) := by
  refine Met.ofW (cc := cX3_canFollow) (maxL := 4) (ret := (some .boolean)) (by decide) rfl ?_
  intro p e s m args below meth c s₁ B hml hv
  obtain ⟨rfl, hP, hK, hN, hZ⟩ := hv
  have hx := B.exec
  have hb := B.bytes
  have hr := B.returns
  have hts := atoms_spec (ws := (Cond.code yX3_canFollow cX3_canFollow 4 (some .boolean) :: gT)) B.pre
  have hT : ∀ w ∈ gT, w.before _ s = true := fun w hw => hts w (List.mem_cons_of_mem _ hw)
  have hown : s.vm.findClass RX3 = some m.cls := findClass_of_methodNamed B.named
  have hlocks := B.notSynchronized
  have hS : va_S (gA X) s.heap s.heap [] := va_S.rf
  have hl := lv_entry ([.ref (xA X 5), .int a1, .int a2]) (n := 4) (Nat.le_of_ble_eq_true rfl)
  rw [lg_entry_eq]
  generalize (lg_sl ([.ref (xA X 5), .int a1, .int a2]) ++ List.replicate (4 - (lg_sl ([.ref (xA X 5), .int a1, .int a2])).length) Slot.unset).toArray = ls at hl ⊢
  have hl : lv_has ls 4 [(0, .ref (xA X 5)), (1, .int a1), (2, .int a2)] := hl
  rw [X3_canFollow] at h
  refine lv_aload_n hx hb dX3_canFollow_0 rfl (lv_at hl 0 rfl) ?_
  refine rg_O_stuck hx hb hT hown hK hP w_156 dX3_canFollow_1 ?_
  refine lv_iload_n hx hb dX3_canFollow_4 rfl (lv_at hl 1 rfl) ?_
  refine lv_ishr hx hb dX3_canFollow_5 ?_
  refine lv_iconst (v := 1) hx hb dX3_canFollow_6 (by decide) ?_
  refine lv_iand hx hb dX3_canFollow_7 ?_
  refine lv_if_eq (tgt := 19) hx hb dX3_canFollow_8 (by decide) (fun c8 => ?_) (fun c8 => ?_)
  · replace h := if_t c8 h
    refine lv_iconst (v := 0) hx hb dX3_canFollow_19 (by decide) ?_
    cases h
    exact W.zret (ty := .boolean) hx hb hr rfl (fun t ht _ => ⟨rfl, ht⟩) (fun _ hq => by cases hq) dX3_canFollow_20
  · replace h := if_f c8 h
    refine lv_iload_n hx hb dX3_canFollow_11 rfl (lv_at hl 2 rfl) ?_
    refine lv_iload_n hx hb dX3_canFollow_12 rfl (lv_at hl 1 rfl) ?_
    refine lv_ishr hx hb dX3_canFollow_13 ?_
    refine lv_iconst (v := 1) hx hb dX3_canFollow_14 (by decide) ?_
    refine lv_iand hx hb dX3_canFollow_15 ?_
    refine lv_if_eq (tgt := 21) hx hb dX3_canFollow_16 (by decide) (fun c16 => ?_) (fun c16 => ?_)
    · replace h := if_t c16 h
      refine lv_aload_n hx hb dX3_canFollow_21 rfl (lv_at hl 0 rfl) ?_
      refine rg_O_onWhom hx hb hT hown hK hP w_153 dX3_canFollow_22 ?_
      refine lv_iload_n hx hb dX3_canFollow_25 rfl (lv_at hl 1 rfl) ?_
      obtain ⟨hi26, h⟩ := gd_e h
      refine ra_g1 hx hb hK hP (ib_in hi26) dX3_canFollow_26 ?_
      refine lv_istore_n (lv' := [(3, .int (ga 1 a1.toNatClampNeg)), (0, .ref (xA X 5)), (1, .int a1), (2, .int a2)]) hx hb dX3_canFollow_27 rfl hl (by decide) rfl (fun ls hl => ?_)
      refine lv_iload_n hx hb dX3_canFollow_28 rfl (lv_at hl 0 rfl) ?_
      refine lv_bipush (v := 9) hx hb dX3_canFollow_29 (by decide) ?_
      refine lv_icmp_eq (tgt := 52) hx hb dX3_canFollow_31 (by decide) (fun c31 => ?_) (fun c31 => ?_)
      · replace h := if_t c31 h
        refine lv_iconst (v := 1) hx hb dX3_canFollow_52 (by decide) ?_
        refine lv_goto (tgt := 57) hx hb dX3_canFollow_53 (by decide) ?_
        cases h
        exact W.zret (ty := .boolean) hx hb hr rfl (fun t ht _ => ⟨rfl, ht⟩) (fun _ hq => by cases hq) dX3_canFollow_57
      · replace h := if_f c31 h
        refine lv_iload_n hx hb dX3_canFollow_34 rfl (lv_at hl 0 rfl) ?_
        refine lv_if_lt (tgt := 56) hx hb dX3_canFollow_35 (by decide) (fun c35 => ?_) (fun c35 => ?_)
        · replace h := if_t c35 h
          refine lv_iconst (v := 0) hx hb dX3_canFollow_56 (by decide) ?_
          cases h
          exact W.zret (ty := .boolean) hx hb hr rfl (fun t ht _ => ⟨rfl, ht⟩) (fun _ hq => by cases hq) dX3_canFollow_57
        · replace h := if_f c35 h
          refine lv_iload_n hx hb dX3_canFollow_38 rfl (lv_at hl 0 rfl) ?_
          refine lv_bipush (v := 7) hx hb dX3_canFollow_39 (by decide) ?_
          refine lv_icmp_ge (tgt := 56) hx hb dX3_canFollow_41 (by decide) (fun c41 => ?_) (fun c41 => ?_)
          · replace h := if_t c41 h
            refine lv_iconst (v := 0) hx hb dX3_canFollow_56 (by decide) ?_
            cases h
            exact W.zret (ty := .boolean) hx hb hr rfl (fun t ht _ => ⟨rfl, ht⟩) (fun _ hq => by cases hq) dX3_canFollow_57
          · replace h := if_f c41 h
            refine lv_iload_n hx hb dX3_canFollow_44 rfl (lv_at hl 3 rfl) ?_
            refine lv_iload_n hx hb dX3_canFollow_45 rfl (lv_at hl 0 rfl) ?_
            refine lv_ishr hx hb dX3_canFollow_46 ?_
            refine lv_iconst (v := 1) hx hb dX3_canFollow_47 (by decide) ?_
            refine lv_iand hx hb dX3_canFollow_48 ?_
            refine lv_if_eq (tgt := 56) hx hb dX3_canFollow_49 (by decide) (fun c49 => ?_) (fun c49 => ?_)
            · replace h := if_t c49 h
              refine lv_iconst (v := 0) hx hb dX3_canFollow_56 (by decide) ?_
              cases h
              exact W.zret (ty := .boolean) hx hb hr rfl (fun t ht _ => ⟨rfl, ht⟩) (fun _ hq => by cases hq) dX3_canFollow_57
            · replace h := if_f c49 h
              refine lv_iconst (v := 1) hx hb dX3_canFollow_52 (by decide) ?_
              refine lv_goto (tgt := 57) hx hb dX3_canFollow_53 (by decide) ?_
              cases h
              exact W.zret (ty := .boolean) hx hb hr rfl (fun t ht _ => ⟨rfl, ht⟩) (fun _ hq => by cases hq) dX3_canFollow_57
    · replace h := if_f c16 h
      refine lv_iconst (v := 0) hx hb dX3_canFollow_19 (by decide) ?_
      cases h
      exact W.zret (ty := .boolean) hx hb hr rfl (fun t ht _ => ⟨rfl, ht⟩) (fun _ hq => by cases hq) dX3_canFollow_20
set_option maxRecDepth 100000 in
set_option maxHeartbeats 4000000 in
theorem c_X3_look (l : Launch) (X : gX) (gi : Nat → Int32) (gl : Nat → Int64) (ga : Nat → Nat → Int32) (vS : Nat → Nat → Int32) (vF : Nat → Nat → Nat → Int32) (sN : Nat → Int32) (sF : Nat → Nat → Int32) {o_gi : Nat → Int32} {o_ga : Nat → Nat → Int32} (h : X3_look vS vF gi ga = some (o_gi, o_ga)) : Met l yX3_look (Cond.code yX3_look cX3_look 4 none :: gT) { frames := 2, cells := 0, slots := 0, locals := 60 } (va_Pc [.ref (xA X 5), .ref (xAV X (0) 0)] (gPre X gi gl ga vS vF sN sF)) (wQ none (fun H => va_P X.1 vwCl (cG X o_gi gl o_ga vS vF sN sF) H) (gA X)) 0 0 (gA X) := by
  refine Met.ofW (cc := cX3_look) (maxL := 4) (ret := none) (by decide) rfl ?_
  intro p e s m args below meth c s₁ B hml hv
  obtain ⟨rfl, hP, hK, hN, hZ⟩ := hv
  have hx := B.exec
  have hb := B.bytes
  have hr := B.returns
  have hts := atoms_spec (ws := (Cond.code yX3_look cX3_look 4 none :: gT)) B.pre
  have hT : ∀ w ∈ gT, w.before _ s = true := fun w hw => hts w (List.mem_cons_of_mem _ hw)
  have hown : s.vm.findClass RX3 = some m.cls := findClass_of_methodNamed B.named
  have hlocks := B.notSynchronized
  have hS : va_S (gA X) s.heap s.heap [] := va_S.rf
  have hl := lv_entry ([.ref (xA X 5), .ref (xAV X (0) 0)]) (n := 4) (Nat.le_of_ble_eq_true rfl)
  rw [lg_entry_eq]
  generalize (lg_sl ([.ref (xA X 5), .ref (xAV X (0) 0)]) ++ List.replicate (4 - (lg_sl ([.ref (xA X 5), .ref (xAV X (0) 0)])).length) Slot.unset).toArray = ls at hl ⊢
  have hl : lv_has ls 4 [(0, .ref (xA X 5)), (1, .ref (xAV X (0) 0))] := hl
  have hL106 : ∀ (n106 : Nat) (v2 : Int32) (gi : Nat → Int32) (ga : Nat → Nat → Int32) (H : Heap) (locs : List Loc) (ls : Array Slot), lv_has ls 4 [(0, .ref (xA X 5)), (2, .int v2)] → va_P X.1 vwCl (cG X gi gl ga vS vF sN sF) H → va_S (gA X) s.heap H locs → X3_look_106 vS vF n106 v2 gi ga = some (o_gi, o_ga) → W p l e (headSpec (Cond.code yX3_look cX3_look 4 none :: gT) { frames := 2, cells := 0, slots := 0, locals := 60 }).room s m [.ref (xA X 5), .ref (xAV X (0) 0)].toArray below meth c H locs 0 0 (MQ below (wQ none (fun H => va_P X.1 vwCl (cG X o_gi gl o_ga vS vF sN sF) H) (gA X)) [.ref (xA X 5), .ref (xAV X (0) 0)].toArray s 0 0 (gA X)) (F0 m 106 ls []) := by
    intro n106
    induction n106 with
    | zero =>
      intro v2 gi ga H locs ls hl hP hS h
      rw [X3_look_106] at h
      cases h
    | succ n106 ih106 =>
      intro v2 gi ga H locs ls hl hP hS h
      rw [X3_look_106] at h
      have hL131 : ∀ (n131 : Nat) (v2 : Int32) (v3 : Int32) (gi : Nat → Int32) (ga : Nat → Nat → Int32) (H : Heap) (locs : List Loc) (ls : Array Slot), lv_has ls 4 [(0, .ref (xA X 5)), (2, .int v2), (3, .int v3)] → va_P X.1 vwCl (cG X gi gl ga vS vF sN sF) H → va_S (gA X) s.heap H locs → X3_look_131 vS vF (X3_look_106 vS vF n106) n131 v2 v3 gi ga = some (o_gi, o_ga) → W p l e (headSpec (Cond.code yX3_look cX3_look 4 none :: gT) { frames := 2, cells := 0, slots := 0, locals := 60 }).room s m [.ref (xA X 5), .ref (xAV X (0) 0)].toArray below meth c H locs 0 0 (MQ below (wQ none (fun H => va_P X.1 vwCl (cG X o_gi gl o_ga vS vF sN sF) H) (gA X)) [.ref (xA X 5), .ref (xAV X (0) 0)].toArray s 0 0 (gA X)) (F0 m 131 ls []) := by
        intro n131
        induction n131 with
        | zero =>
          intro v2 v3 gi ga H locs ls hl hP hS h
          rw [X3_look_131] at h
          cases h
        | succ n131 ih131 =>
          intro v2 v3 gi ga H locs ls hl hP hS h
          rw [X3_look_131] at h
          refine lv_iload_n hx hb dX3_look_131 rfl (lv_at hl 2 rfl) ?_
          refine lv_bipush (v := 7) hx hb dX3_look_132 (by decide) ?_
          refine lv_icmp_ge (tgt := 171) hx hb dX3_look_134 (by decide) (fun c134 => ?_) (fun c134 => ?_)
          · replace h := if_t c134 h
            refine lv_iinc (v := (v2 + (-1 : Int32))) (lv' := [(2, .int (v2 + (-1 : Int32))), (0, .ref (xA X 5)), (3, .int v3)]) hx hb dX3_look_171 hl (k := 1) rfl rfl (by decide) rfl (fun ls hl => ?_)
            refine lv_goto (tgt := 106) hx hb dX3_look_174 (by decide) ?_
            exact ih106 (v2 + (-1 : Int32)) gi ga _ _ ls (lv_sub hl [1, 0] rfl) hP hS h
          · replace h := if_f c134 h
            refine lv_aload_n hx hb dX3_look_137 rfl (lv_at hl 0 rfl) ?_
            refine lv_iload_n hx hb dX3_look_138 rfl (lv_at hl 2 rfl) ?_
            refine lv_iload_n hx hb dX3_look_139 rfl (lv_at hl 1 rfl) ?_
            obtain ⟨r140, hc140, h⟩ := Option.bind_eq_some_iff.mp h
            refine rcV (As := [.int v3, .int v2]) (rest := []) ⟨hx, hb, hml, hown, hts⟩ (c_X3_canFollow l X gi gl ga vS vF sN sF v3 v2 hc140) ⟨w_626, w_628, w_5, w_55, w_629⟩ hd_X3_canFollow rfl rfl ⟨(Nat.le_of_ble_eq_true rfl), (Nat.le_of_ble_eq_true rfl)⟩ ⟨Nat.zero_le _, Nat.zero_le _⟩ gPre_blind (va_recv hK hP (ci := 1) rfl cG_b5) (gPre_call hP hK hN hZ hS) rfl rfl hl.1 (Nat.le_of_ble_eq_true rfl) dX3_look_140 ?_
            refine lv_if_eq (tgt := 165) hx hb dX3_look_143 (by decide) (fun c143 => ?_) (fun c143 => ?_)
            · replace h := if_t c143 h
              refine lv_iinc (v := (v3 + (1 : Int32))) (lv' := [(3, .int (v3 + (1 : Int32))), (0, .ref (xA X 5)), (2, .int v2)]) hx hb dX3_look_165 hl (k := 2) rfl rfl (by decide) rfl (fun ls hl => ?_)
              refine lv_goto (tgt := 131) hx hb dX3_look_168 (by decide) ?_
              exact ih131 v2 (v3 + (1 : Int32)) gi ga _ _ ls (lv_sub hl [1, 2, 0] rfl) hP hS h
            · replace h := if_f c143 h
              refine lv_aload_n hx hb dX3_look_146 rfl (lv_at hl 0 rfl) ?_
              refine rg_O_behind hx hb hT hown hK hP w_155 dX3_look_147 ?_
              refine lv_iload_n hx hb dX3_look_150 rfl (lv_at hl 1 rfl) ?_
              refine lv_dup2_11 hx hb dX3_look_151 rfl rfl ?_
              obtain ⟨hi152, h⟩ := gd_e h
              refine ra_g3 hx hb hK hP (ib_in hi152) dX3_look_152 ?_
              refine lv_aload_n hx hb dX3_look_153 rfl (lv_at hl 0 rfl) ?_
              refine rg_O_behind hx hb hT hown hK hP w_155 dX3_look_154 ?_
              refine lv_iload_n hx hb dX3_look_157 rfl (lv_at hl 1 rfl) ?_
              refine lv_iload_n hx hb dX3_look_158 rfl (lv_at hl 2 rfl) ?_
              obtain ⟨r159, hc159, h⟩ := Option.bind_eq_some_iff.mp h
              refine rcS (As := [.int v2, .int v3]) (rest := [.ref (xA X 9), .int (ga 3 v2.toNatClampNeg), .int v2, .ref (xA X 9)]) ⟨hx, hb, hml, hown, hts⟩ (c_X3_with l v2 v3 hc159) ⟨w_630, w_631, w_55, w_632⟩ hd_X3_with rfl rfl ⟨(Nat.le_of_ble_eq_true rfl), (Nat.le_of_ble_eq_true rfl)⟩ ⟨Nat.zero_le _, Nat.zero_le _⟩ (fun _ _ _ _ h => h) (fun _ _ _ => trivial) rfl rfl hl.1 (Nat.le_of_ble_eq_true rfl) dX3_look_159 ?_
              obtain ⟨hi162, h⟩ := gd_e h
              refine ra_g3 hx hb hK hP (ib_in hi162) dX3_look_162 ?_
              refine lv_iadd hx hb dX3_look_163 ?_
              obtain ⟨hi164, h⟩ := gd_e h
              refine rs_g3 hx hb hK hP hN hS (ib_in hi164) dX3_look_164 (fun H locs hP hS => ?_)
              generalize ega_164 : va_up ga 3 (upd (ga 3) v2.toNatClampNeg ((ga 3 v2.toNatClampNeg) + (ga 3 r159.toNatClampNeg))) = ga_164 at hP
              replace h := lt_g h ega_164
              refine lv_iinc (v := (v3 + (1 : Int32))) (lv' := [(3, .int (v3 + (1 : Int32))), (0, .ref (xA X 5)), (2, .int v2)]) hx hb dX3_look_165 hl (k := 2) rfl rfl (by decide) rfl (fun ls hl => ?_)
              refine lv_goto (tgt := 131) hx hb dX3_look_168 (by decide) ?_
              exact ih131 v2 (v3 + (1 : Int32)) gi ga_164 _ _ ls (lv_sub hl [1, 2, 0] rfl) hP hS h
      refine lv_iload_n hx hb dX3_look_106 rfl (lv_at hl 1 rfl) ?_
      refine lv_if_lt (tgt := 177) hx hb dX3_look_107 (by decide) (fun c107 => ?_) (fun c107 => ?_)
      · replace h := if_t c107 h
        cases h
        exact W.vret hx hb hr (fun t ht _ => ⟨rfl, by rw [ht]; exact hP, hS.F ht⟩) hS.2.2 dX3_look_177
      · replace h := if_f c107 h
        refine lv_aload_n hx hb dX3_look_110 rfl (lv_at hl 0 rfl) ?_
        refine rg_O_behind hx hb hT hown hK hP w_155 dX3_look_111 ?_
        refine lv_iload_n hx hb dX3_look_114 rfl (lv_at hl 1 rfl) ?_
        refine lv_iload_n hx hb dX3_look_115 rfl (lv_at hl 1 rfl) ?_
        refine lv_aload_n hx hb dX3_look_116 rfl (lv_at hl 0 rfl) ?_
        refine rg_O_stuck hx hb hT hown hK hP w_156 dX3_look_117 ?_
        refine lv_icmp_ne (tgt := 127) hx hb dX3_look_120 (by decide) (fun c120 => ?_) (fun c120 => ?_)
        · replace h := if_f c120 h
          refine lv_iconst (v := 0) hx hb dX3_look_127 (by decide) ?_
          obtain ⟨hi128, h⟩ := gd_e h
          refine rs_g3 hx hb hK hP hN hS (ib_in hi128) dX3_look_128 (fun H locs hP hS => ?_)
          generalize ega_128 : va_up ga 3 (upd (ga 3) v2.toNatClampNeg (0 : Int32)) = ga_128 at hP
          replace h := lt_g h ega_128
          refine lv_iconst (v := 0) hx hb dX3_look_129 (by decide) ?_
          refine lv_istore_n (lv' := [(3, .int (0 : Int32)), (0, .ref (xA X 5)), (2, .int v2)]) hx hb dX3_look_130 rfl hl (by decide) rfl (fun ls hl => ?_)
          exact hL131 500 v2 (0 : Int32) gi ga_128 _ _ ls (lv_sub hl [1, 2, 0] rfl) hP hS h
        · replace h := if_t c120 h
          refine lv_iconst (v := 1) hx hb dX3_look_123 (by decide) ?_
          refine lv_goto (tgt := 128) hx hb dX3_look_124 (by decide) ?_
          obtain ⟨hi128, h⟩ := gd_e h
          refine rs_g3 hx hb hK hP hN hS (ib_in hi128) dX3_look_128 (fun H locs hP hS => ?_)
          generalize ega_128 : va_up ga 3 (upd (ga 3) v2.toNatClampNeg (1 : Int32)) = ga_128 at hP
          replace h := lt_g h ega_128
          refine lv_iconst (v := 0) hx hb dX3_look_129 (by decide) ?_
          refine lv_istore_n (lv' := [(3, .int (0 : Int32)), (0, .ref (xA X 5)), (2, .int v2)]) hx hb dX3_look_130 rfl hl (by decide) rfl (fun ls hl => ?_)
          exact hL131 500 v2 (0 : Int32) gi ga_128 _ _ ls (lv_sub hl [1, 2, 0] rfl) hP hS h
  have hL48 : ∀ (n48 : Nat) (v2 : Int32) (gi : Nat → Int32) (ga : Nat → Nat → Int32) (H : Heap) (locs : List Loc) (ls : Array Slot), lv_has ls 4 [(0, .ref (xA X 5)), (2, .int v2)] → va_P X.1 vwCl (cG X gi gl ga vS vF sN sF) H → va_S (gA X) s.heap H locs → X3_look_48 vS vF n48 v2 gi ga = some (o_gi, o_ga) → W p l e (headSpec (Cond.code yX3_look cX3_look 4 none :: gT) { frames := 2, cells := 0, slots := 0, locals := 60 }).room s m [.ref (xA X 5), .ref (xAV X (0) 0)].toArray below meth c H locs 0 0 (MQ below (wQ none (fun H => va_P X.1 vwCl (cG X o_gi gl o_ga vS vF sN sF) H) (gA X)) [.ref (xA X 5), .ref (xAV X (0) 0)].toArray s 0 0 (gA X)) (F0 m 48 ls []) := by
    intro n48
    induction n48 with
    | zero =>
      intro v2 gi ga H locs ls hl hP hS h
      rw [X3_look_48] at h
      cases h
    | succ n48 ih48 =>
      intro v2 gi ga H locs ls hl hP hS h
      rw [X3_look_48] at h
      have hL57 : ∀ (n57 : Nat) (v2 : Int32) (v3 : Int32) (gi : Nat → Int32) (ga : Nat → Nat → Int32) (H : Heap) (locs : List Loc) (ls : Array Slot), lv_has ls 4 [(0, .ref (xA X 5)), (2, .int v2), (3, .int v3)] → va_P X.1 vwCl (cG X gi gl ga vS vF sN sF) H → va_S (gA X) s.heap H locs → X3_look_57 vS vF (X3_look_48 vS vF n48) n57 v2 v3 gi ga = some (o_gi, o_ga) → W p l e (headSpec (Cond.code yX3_look cX3_look 4 none :: gT) { frames := 2, cells := 0, slots := 0, locals := 60 }).room s m [.ref (xA X 5), .ref (xAV X (0) 0)].toArray below meth c H locs 0 0 (MQ below (wQ none (fun H => va_P X.1 vwCl (cG X o_gi gl o_ga vS vF sN sF) H) (gA X)) [.ref (xA X 5), .ref (xAV X (0) 0)].toArray s 0 0 (gA X)) (F0 m 57 ls []) := by
        intro n57
        induction n57 with
        | zero =>
          intro v2 v3 gi ga H locs ls hl hP hS h
          rw [X3_look_57] at h
          cases h
        | succ n57 ih57 =>
          intro v2 v3 gi ga H locs ls hl hP hS h
          rw [X3_look_57] at h
          refine lv_iload_n hx hb dX3_look_57 rfl (lv_at hl 2 rfl) ?_
          refine lv_bipush (v := 7) hx hb dX3_look_58 (by decide) ?_
          refine lv_icmp_ge (tgt := 97) hx hb dX3_look_60 (by decide) (fun c60 => ?_) (fun c60 => ?_)
          · replace h := if_t c60 h
            refine lv_iinc (v := (v2 + (1 : Int32))) (lv' := [(2, .int (v2 + (1 : Int32))), (0, .ref (xA X 5)), (3, .int v3)]) hx hb dX3_look_97 hl (k := 1) rfl rfl (by decide) rfl (fun ls hl => ?_)
            refine lv_goto (tgt := 48) hx hb dX3_look_100 (by decide) ?_
            exact ih48 (v2 + (1 : Int32)) gi ga _ _ ls (lv_sub hl [1, 0] rfl) hP hS h
          · replace h := if_f c60 h
            refine lv_aload_n hx hb dX3_look_63 rfl (lv_at hl 0 rfl) ?_
            refine lv_iload_n hx hb dX3_look_64 rfl (lv_at hl 2 rfl) ?_
            refine lv_iload_n hx hb dX3_look_65 rfl (lv_at hl 1 rfl) ?_
            obtain ⟨r66, hc66, h⟩ := Option.bind_eq_some_iff.mp h
            refine rcV (As := [.int v3, .int v2]) (rest := []) ⟨hx, hb, hml, hown, hts⟩ (c_X3_canFollow l X gi gl ga vS vF sN sF v3 v2 hc66) ⟨w_626, w_628, w_5, w_55, w_629⟩ hd_X3_canFollow rfl rfl ⟨(Nat.le_of_ble_eq_true rfl), (Nat.le_of_ble_eq_true rfl)⟩ ⟨Nat.zero_le _, Nat.zero_le _⟩ gPre_blind (va_recv hK hP (ci := 1) rfl cG_b5) (gPre_call hP hK hN hZ hS) rfl rfl hl.1 (Nat.le_of_ble_eq_true rfl) dX3_look_66 ?_
            refine lv_if_eq (tgt := 91) hx hb dX3_look_69 (by decide) (fun c69 => ?_) (fun c69 => ?_)
            · replace h := if_t c69 h
              refine lv_iinc (v := (v3 + (1 : Int32))) (lv' := [(3, .int (v3 + (1 : Int32))), (0, .ref (xA X 5)), (2, .int v2)]) hx hb dX3_look_91 hl (k := 2) rfl rfl (by decide) rfl (fun ls hl => ?_)
              refine lv_goto (tgt := 57) hx hb dX3_look_94 (by decide) ?_
              exact ih57 v2 (v3 + (1 : Int32)) gi ga _ _ ls (lv_sub hl [1, 2, 0] rfl) hP hS h
            · replace h := if_f c69 h
              refine lv_aload_n hx hb dX3_look_72 rfl (lv_at hl 0 rfl) ?_
              refine rg_O_before hx hb hT hown hK hP w_154 dX3_look_73 ?_
              refine lv_iload_n hx hb dX3_look_76 rfl (lv_at hl 1 rfl) ?_
              refine lv_iload_n hx hb dX3_look_77 rfl (lv_at hl 2 rfl) ?_
              obtain ⟨r78, hc78, h⟩ := Option.bind_eq_some_iff.mp h
              refine rcS (As := [.int v2, .int v3]) (rest := [.ref (xA X 8)]) ⟨hx, hb, hml, hown, hts⟩ (c_X3_with l v2 v3 hc78) ⟨w_630, w_631, w_55, w_632⟩ hd_X3_with rfl rfl ⟨(Nat.le_of_ble_eq_true rfl), (Nat.le_of_ble_eq_true rfl)⟩ ⟨Nat.zero_le _, Nat.zero_le _⟩ (fun _ _ _ _ h => h) (fun _ _ _ => trivial) rfl rfl hl.1 (Nat.le_of_ble_eq_true rfl) dX3_look_78 ?_
              refine lv_dup2_11 hx hb dX3_look_81 rfl rfl ?_
              obtain ⟨hi82, h⟩ := gd_e h
              refine ra_g2 hx hb hK hP (ib_in hi82) dX3_look_82 ?_
              refine lv_aload_n hx hb dX3_look_83 rfl (lv_at hl 0 rfl) ?_
              refine rg_O_before hx hb hT hown hK hP w_154 dX3_look_84 ?_
              refine lv_iload_n hx hb dX3_look_87 rfl (lv_at hl 1 rfl) ?_
              obtain ⟨hi88, h⟩ := gd_e h
              refine ra_g2 hx hb hK hP (ib_in hi88) dX3_look_88 ?_
              refine lv_iadd hx hb dX3_look_89 ?_
              obtain ⟨hi90, h⟩ := gd_e h
              refine rs_g2 hx hb hK hP hN hS (ib_in hi90) dX3_look_90 (fun H locs hP hS => ?_)
              generalize ega_90 : va_up ga 2 (upd (ga 2) r78.toNatClampNeg ((ga 2 r78.toNatClampNeg) + (ga 2 v2.toNatClampNeg))) = ga_90 at hP
              replace h := lt_g h ega_90
              refine lv_iinc (v := (v3 + (1 : Int32))) (lv' := [(3, .int (v3 + (1 : Int32))), (0, .ref (xA X 5)), (2, .int v2)]) hx hb dX3_look_91 hl (k := 2) rfl rfl (by decide) rfl (fun ls hl => ?_)
              refine lv_goto (tgt := 57) hx hb dX3_look_94 (by decide) ?_
              exact ih57 v2 (v3 + (1 : Int32)) gi ga_90 _ _ ls (lv_sub hl [1, 2, 0] rfl) hP hS h
      refine lv_iload_n hx hb dX3_look_48 rfl (lv_at hl 1 rfl) ?_
      refine lv_sipush (v := 128) hx hb dX3_look_49 (by decide) ?_
      refine lv_icmp_ge (tgt := 103) hx hb dX3_look_52 (by decide) (fun c52 => ?_) (fun c52 => ?_)
      · replace h := if_t c52 h
        refine lv_bipush (v := 127) hx hb dX3_look_103 (by decide) ?_
        refine lv_istore_n (lv' := [(2, .int (127 : Int32)), (0, .ref (xA X 5))]) hx hb dX3_look_105 rfl hl (by decide) rfl (fun ls hl => ?_)
        exact hL106 500 (127 : Int32) gi ga _ _ ls (lv_sub hl [1, 0] rfl) hP hS h
      · replace h := if_f c52 h
        refine lv_iconst (v := 0) hx hb dX3_look_55 (by decide) ?_
        refine lv_istore_n (lv' := [(3, .int (0 : Int32)), (0, .ref (xA X 5)), (2, .int v2)]) hx hb dX3_look_56 rfl hl (by decide) rfl (fun ls hl => ?_)
        exact hL57 500 v2 (0 : Int32) gi ga _ _ ls (lv_sub hl [1, 2, 0] rfl) hP hS h
  rw [X3_look] at h
  refine lv_aload_n hx hb dX3_look_0 rfl (lv_at hl 0 rfl) ?_
  refine lv_aload_n hx hb dX3_look_1 rfl (lv_at hl 1 rfl) ?_
  obtain ⟨r2, hc2, h⟩ := Option.bind_eq_some_iff.mp h
  refine rcV (As := []) (rest := [.ref (xA X 5)]) ⟨hx, hb, hml, hown, hts⟩ (c_X7_stuckSet l X gi gl ga vS vF sN sF hc2) ⟨w_623, w_391, w_392, w_53, w_393⟩ hd_X7_stuckSet rfl rfl ⟨(Nat.le_of_ble_eq_true rfl), (Nat.le_of_ble_eq_true rfl)⟩ ⟨Nat.zero_le _, Nat.zero_le _⟩ gPre_blind (va_recv hK hP (ci := 3) rfl (cG_v (by decide : 0 < 4))) (gPre_call hP hK hN hZ hS) rfl rfl hl.1 (Nat.le_of_ble_eq_true rfl) dX3_look_2 ?_
  refine rp_O_stuck hx hb hT hown hK hP hN hS w_156 dX3_look_5 (fun H locs hP hS => ?_)
  generalize egi_5 : va_up gi 2 r2 = gi_5 at hP
  replace h := lt_g h egi_5
  refine lv_aload_n hx hb dX3_look_8 rfl (lv_at hl 1 rfl) ?_
  refine rg_V_holds (q := (0)) hx hb hT hown hK hP (by decide : 0 < 4) w_100 dX3_look_9 ?_
  refine lv_iconst (v := 0) hx hb dX3_look_12 (by decide) ?_
  refine lv_aload_n hx hb dX3_look_13 rfl (lv_at hl 0 rfl) ?_
  refine rg_O_onWhom hx hb hT hown hK hP w_153 dX3_look_14 ?_
  refine lv_iconst (v := 0) hx hb dX3_look_17 (by decide) ?_
  refine lv_bipush (v := 7) hx hb dX3_look_18 (by decide) ?_
  obtain ⟨hi20, h⟩ := gd_e h
  obtain ⟨ha20, hb20, hc20, hd20, he20⟩ := cpb_e hi20
  refine va_copyi hx hb (hml.trans hl.1.symm) hown (hT _ w_624) (hT _ w_268) (hT _ w_267) (hT _ w_60) hK hP (gD hN) hS (11 + 11 * (0) + 5) 7 0 0 (cG_va4 (by decide : 0 < 4)) cG_b7 rfl rfl rfl ha20 hb20 hc20 hd20 he20 (fun _ _ => rfl) (Nat.le_of_ble_eq_true rfl) (Nat.le_of_ble_eq_true rfl) dX3_look_20 (fun H locs hP _ hS => ?_)
  have hP : va_P X.1 vwCl (cG X gi_5 gl (va_up ga 1 (va_cpy (vF (0) 4) (ga 1) (0 : Int32).toNatClampNeg (0 : Int32).toNatClampNeg (7 : Int32).toNatClampNeg)) vS vF sN sF) H := cG_pga1 ▸ hP
  generalize ega_20 : va_up ga 1 (va_cpy (vF (0) 4) (ga 1) (0 : Int32).toNatClampNeg (0 : Int32).toNatClampNeg (7 : Int32).toNatClampNeg) = ga_20 at hP
  replace h := lt_g h ega_20
  refine lv_aload_n hx hb dX3_look_23 rfl (lv_at hl 0 rfl) ?_
  refine rg_O_before hx hb hT hown hK hP w_154 dX3_look_24 ?_
  refine lv_iconst (v := 0) hx hb dX3_look_27 (by decide) ?_
  obtain ⟨ga_28, hc28, h⟩ := Option.bind_eq_some_iff.mp h
  refine wcS (As := [.ref (xA X 8), .int (0 : Int32)]) (rest := []) ⟨hx, hb, hml, hown, hts⟩ (c_J7_fill_53178_g2 l X gi_5 gl ga_20 vS vF sN sF (0 : Int32) hc28) ⟨w_625, w_236, w_59, w_237⟩ hd_J7_fill_53178 rfl rfl ⟨(Nat.le_of_ble_eq_true rfl), (Nat.le_of_ble_eq_true rfl)⟩ ⟨Nat.zero_le _, Nat.zero_le _⟩ gPre_blind (gPre_call hP hK hN hZ hS) hS (fun _ h => h) rfl rfl hl.1 (Nat.le_of_ble_eq_true rfl) dX3_look_28 (fun H locs hP _ hS => ?_)
  have hP : va_P X.1 vwCl (cG X gi_5 gl ga_28 vS vF sN sF) H := hP
  refine W.eq (g2 := F0 m 31 ls []) rfl ?_
  refine lv_aload_n hx hb dX3_look_31 rfl (lv_at hl 0 rfl) ?_
  refine rg_O_behind hx hb hT hown hK hP w_155 dX3_look_32 ?_
  refine lv_iconst (v := 0) hx hb dX3_look_35 (by decide) ?_
  obtain ⟨ga_36, hc36, h⟩ := Option.bind_eq_some_iff.mp h
  refine wcS (As := [.ref (xA X 9), .int (0 : Int32)]) (rest := []) ⟨hx, hb, hml, hown, hts⟩ (c_J7_fill_53178_g3 l X gi_5 gl ga_28 vS vF sN sF (0 : Int32) hc36) ⟨w_625, w_236, w_59, w_237⟩ hd_J7_fill_53178 rfl rfl ⟨(Nat.le_of_ble_eq_true rfl), (Nat.le_of_ble_eq_true rfl)⟩ ⟨Nat.zero_le _, Nat.zero_le _⟩ gPre_blind (gPre_call hP hK hN hZ hS) hS (fun _ h => h) rfl rfl hl.1 (Nat.le_of_ble_eq_true rfl) dX3_look_36 (fun H locs hP _ hS => ?_)
  have hP : va_P X.1 vwCl (cG X gi_5 gl ga_36 vS vF sN sF) H := hP
  refine W.eq (g2 := F0 m 39 ls []) rfl ?_
  refine lv_aload_n hx hb dX3_look_39 rfl (lv_at hl 0 rfl) ?_
  refine rg_O_before hx hb hT hown hK hP w_154 dX3_look_40 ?_
  refine lv_iconst (v := 0) hx hb dX3_look_43 (by decide) ?_
  refine lv_iconst (v := 1) hx hb dX3_look_44 (by decide) ?_
  obtain ⟨hi45, h⟩ := gd_e h
  refine rs_g2 hx hb hK hP hN hS (ib_in hi45) dX3_look_45 (fun H locs hP hS => ?_)
  generalize ega_45 : va_up ga_36 2 (upd (ga_36 2) (0 : Int32).toNatClampNeg (1 : Int32)) = ga_45 at hP
  replace h := lt_g h ega_45
  refine lv_iconst (v := 0) hx hb dX3_look_46 (by decide) ?_
  refine lv_istore_n (lv' := [(2, .int (0 : Int32)), (0, .ref (xA X 5)), (1, .ref (xAV X (0) 0))]) hx hb dX3_look_47 rfl hl (by decide) rfl (fun ls hl => ?_)
  exact hL48 500 (0 : Int32) gi_5 ga_45 _ _ ls (lv_sub hl [1, 0] rfl) hP hS h
set_option maxRecDepth 100000 in
set_option maxHeartbeats 4000000 in
theorem c_X3_all (l : Launch) (X : gX) (gi : Nat → Int32) (gl : Nat → Int64) (ga : Nat → Nat → Int32) (vS : Nat → Nat → Int32) (vF : Nat → Nat → Nat → Int32) (sN : Nat → Int32) (sF : Nat → Nat → Int32) {o0 : Int32} (h : X3_all ga = some o0) : Met l yX3_all (Cond.code yX3_all cX3_all 1 (some .int) :: gT) { frames := 0, cells := 0, slots := 0, locals := 0 } (va_Pc [.ref (xA X 5)] (gPre X gi gl ga vS vF sN sF)) (k2_QcV (.int o0)) 0 0 (fun _ => False) := by
  refine Met.ofW (cc := cX3_all) (maxL := 1) (ret := (some .int)) (by decide) rfl ?_
  intro p e s m args below meth c s₁ B hml hv
  obtain ⟨rfl, hP, hK, hN, hZ⟩ := hv
  have hx := B.exec
  have hb := B.bytes
  have hr := B.returns
  have hts := atoms_spec (ws := (Cond.code yX3_all cX3_all 1 (some .int) :: gT)) B.pre
  have hT : ∀ w ∈ gT, w.before _ s = true := fun w hw => hts w (List.mem_cons_of_mem _ hw)
  have hown : s.vm.findClass RX3 = some m.cls := findClass_of_methodNamed B.named
  have hlocks := B.notSynchronized
  have hS : va_S (gA X) s.heap s.heap [] := va_S.rf
  have hl := lv_entry ([.ref (xA X 5)]) (n := 1) (Nat.le_of_ble_eq_true rfl)
  rw [lg_entry_eq]
  generalize (lg_sl ([.ref (xA X 5)]) ++ List.replicate (1 - (lg_sl ([.ref (xA X 5)])).length) Slot.unset).toArray = ls at hl ⊢
  have hl : lv_has ls 1 [(0, .ref (xA X 5))] := hl
  rw [X3_all] at h
  refine lv_aload_n hx hb dX3_all_0 rfl (lv_at hl 0 rfl) ?_
  refine rg_O_behind hx hb hT hown hK hP w_155 dX3_all_1 ?_
  refine lv_iconst (v := 0) hx hb dX3_all_4 (by decide) ?_
  obtain ⟨hi5, h⟩ := gd_e h
  refine ra_g3 hx hb hK hP (ib_in hi5) dX3_all_5 ?_
  cases h
  exact W.iret hx hb hr (fun t ht _ => ⟨rfl, ht⟩) (fun _ hq => by cases hq) dX3_all_6
set_option maxRecDepth 100000 in
set_option maxHeartbeats 4000000 in
theorem c_X3_nextAfter (l : Launch) (X : gX) (gi : Nat → Int32) (gl : Nat → Int64) (ga : Nat → Nat → Int32) (vS : Nat → Nat → Int32) (vF : Nat → Nat → Nat → Int32) (sN : Nat → Int32) (sF : Nat → Nat → Int32) (a1 : Int32) (a2 : Int32) {o0 : Int32} (h : X3_nextAfter gi ga a1 a2 = some o0) : Met l yX3_nextAfter (Cond.code yX3_nextAfter cX3_nextAfter 3 (some .int) :: gT) { frames := 1, cells := 0, slots := 0, locals := 23 } (va_Pc [.ref (xA X 5), .int a1, .int a2] (gPre X gi gl ga vS vF sN sF)) (k2_QcV (.int o0)) 0 0 (fun _ => False) := by
  refine Met.ofW (cc := cX3_nextAfter) (maxL := 3) (ret := (some .int)) (by decide) rfl ?_
  intro p e s m args below meth c s₁ B hml hv
  obtain ⟨rfl, hP, hK, hN, hZ⟩ := hv
  have hx := B.exec
  have hb := B.bytes
  have hr := B.returns
  have hts := atoms_spec (ws := (Cond.code yX3_nextAfter cX3_nextAfter 3 (some .int) :: gT)) B.pre
  have hT : ∀ w ∈ gT, w.before _ s = true := fun w hw => hts w (List.mem_cons_of_mem _ hw)
  have hown : s.vm.findClass RX3 = some m.cls := findClass_of_methodNamed B.named
  have hlocks := B.notSynchronized
  have hS : va_S (gA X) s.heap s.heap [] := va_S.rf
  have hl := lv_entry ([.ref (xA X 5), .int a1, .int a2]) (n := 3) (Nat.le_of_ble_eq_true rfl)
  rw [lg_entry_eq]
  generalize (lg_sl ([.ref (xA X 5), .int a1, .int a2]) ++ List.replicate (3 - (lg_sl ([.ref (xA X 5), .int a1, .int a2])).length) Slot.unset).toArray = ls at hl ⊢
  have hl : lv_has ls 3 [(0, .ref (xA X 5)), (1, .int a1), (2, .int a2)] := hl
  rw [X3_nextAfter] at h
  refine lv_iload_n hx hb dX3_nextAfter_0 rfl (lv_at hl 2 rfl) ?_
  refine lv_if_lt (tgt := 30) hx hb dX3_nextAfter_1 (by decide) (fun c1 => ?_) (fun c1 => ?_)
  · replace h := if_t c1 h
    refine lv_iconst (v := 0) hx hb dX3_nextAfter_30 (by decide) ?_
    cases h
    exact W.iret hx hb hr (fun t ht _ => ⟨rfl, ht⟩) (fun _ hq => by cases hq) dX3_nextAfter_31
  · replace h := if_f c1 h
    refine lv_iload_n hx hb dX3_nextAfter_4 rfl (lv_at hl 2 rfl) ?_
    refine lv_bipush (v := 7) hx hb dX3_nextAfter_5 (by decide) ?_
    refine lv_icmp_ge (tgt := 30) hx hb dX3_nextAfter_7 (by decide) (fun c7 => ?_) (fun c7 => ?_)
    · replace h := if_t c7 h
      refine lv_iconst (v := 0) hx hb dX3_nextAfter_30 (by decide) ?_
      cases h
      exact W.iret hx hb hr (fun t ht _ => ⟨rfl, ht⟩) (fun _ hq => by cases hq) dX3_nextAfter_31
    · replace h := if_f c7 h
      refine lv_iload_n hx hb dX3_nextAfter_10 rfl (lv_at hl 1 rfl) ?_
      refine lv_if_lt (tgt := 30) hx hb dX3_nextAfter_11 (by decide) (fun c11 => ?_) (fun c11 => ?_)
      · replace h := if_t c11 h
        refine lv_iconst (v := 0) hx hb dX3_nextAfter_30 (by decide) ?_
        cases h
        exact W.iret hx hb hr (fun t ht _ => ⟨rfl, ht⟩) (fun _ hq => by cases hq) dX3_nextAfter_31
      · replace h := if_f c11 h
        refine lv_iload_n hx hb dX3_nextAfter_14 rfl (lv_at hl 1 rfl) ?_
        refine lv_sipush (v := 128) hx hb dX3_nextAfter_15 (by decide) ?_
        refine lv_icmp_ge (tgt := 30) hx hb dX3_nextAfter_18 (by decide) (fun c18 => ?_) (fun c18 => ?_)
        · replace h := if_t c18 h
          refine lv_iconst (v := 0) hx hb dX3_nextAfter_30 (by decide) ?_
          cases h
          exact W.iret hx hb hr (fun t ht _ => ⟨rfl, ht⟩) (fun _ hq => by cases hq) dX3_nextAfter_31
        · replace h := if_f c18 h
          refine lv_aload_n hx hb dX3_nextAfter_21 rfl (lv_at hl 0 rfl) ?_
          refine lv_iload_n hx hb dX3_nextAfter_22 rfl (lv_at hl 2 rfl) ?_
          refine lv_iload_n hx hb dX3_nextAfter_23 rfl (lv_at hl 1 rfl) ?_
          obtain ⟨r24, hc24, h⟩ := Option.bind_eq_some_iff.mp h
          refine rcV (As := [.int a2, .int a1]) (rest := []) ⟨hx, hb, hml, hown, hts⟩ (c_X3_canFollow l X gi gl ga vS vF sN sF a2 a1 hc24) ⟨w_626, w_628, w_5, w_55, w_629⟩ hd_X3_canFollow rfl rfl ⟨(Nat.le_of_ble_eq_true rfl), (Nat.le_of_ble_eq_true rfl)⟩ ⟨Nat.zero_le _, Nat.zero_le _⟩ gPre_blind (va_recv hK hP (ci := 1) rfl cG_b5) (gPre_call hP hK hN hZ hS) rfl rfl hl.1 (Nat.le_of_ble_eq_true rfl) dX3_nextAfter_24 ?_
          refine lv_if_ne (tgt := 32) hx hb dX3_nextAfter_27 (by decide) (fun c27 => ?_) (fun c27 => ?_)
          · replace h := if_f c27 h
            refine lv_aload_n hx hb dX3_nextAfter_32 rfl (lv_at hl 0 rfl) ?_
            refine rg_O_before hx hb hT hown hK hP w_154 dX3_nextAfter_33 ?_
            refine lv_iload_n hx hb dX3_nextAfter_36 rfl (lv_at hl 1 rfl) ?_
            obtain ⟨hi37, h⟩ := gd_e h
            refine ra_g2 hx hb hK hP (ib_in hi37) dX3_nextAfter_37 ?_
            refine lv_aload_n hx hb dX3_nextAfter_38 rfl (lv_at hl 0 rfl) ?_
            refine rg_O_behind hx hb hT hown hK hP w_155 dX3_nextAfter_39 ?_
            refine lv_iload_n hx hb dX3_nextAfter_42 rfl (lv_at hl 1 rfl) ?_
            refine lv_iload_n hx hb dX3_nextAfter_43 rfl (lv_at hl 2 rfl) ?_
            obtain ⟨r44, hc44, h⟩ := Option.bind_eq_some_iff.mp h
            refine rcS (As := [.int a1, .int a2]) (rest := [.ref (xA X 9), .int (ga 2 a1.toNatClampNeg)]) ⟨hx, hb, hml, hown, hts⟩ (c_X3_with l a1 a2 hc44) ⟨w_630, w_631, w_55, w_632⟩ hd_X3_with rfl rfl ⟨(Nat.le_of_ble_eq_true rfl), (Nat.le_of_ble_eq_true rfl)⟩ ⟨Nat.zero_le _, Nat.zero_le _⟩ (fun _ _ _ _ h => h) (fun _ _ _ => trivial) rfl rfl hl.1 (Nat.le_of_ble_eq_true rfl) dX3_nextAfter_44 ?_
            obtain ⟨hi47, h⟩ := gd_e h
            refine ra_g3 hx hb hK hP (ib_in hi47) dX3_nextAfter_47 ?_
            refine lv_imul hx hb dX3_nextAfter_48 ?_
            cases h
            exact W.iret hx hb hr (fun t ht _ => ⟨rfl, ht⟩) (fun _ hq => by cases hq) dX3_nextAfter_49
          · replace h := if_t c27 h
            refine lv_iconst (v := 0) hx hb dX3_nextAfter_30 (by decide) ?_
            cases h
            exact W.iret hx hb hr (fun t ht _ => ⟨rfl, ht⟩) (fun _ hq => by cases hq) dX3_nextAfter_31
set_option maxRecDepth 100000 in
set_option maxHeartbeats 4000000 in
theorem c_X3_withPlace (l : Launch) (X : gX) (gi : Nat → Int32) (gl : Nat → Int64) (ga : Nat → Nat → Int32) (vS : Nat → Nat → Int32) (vF : Nat → Nat → Nat → Int32) (sN : Nat → Int32) (sF : Nat → Nat → Int32) (a1 : Int32) (a2 : Int32) {o0 : Int32} (h : X3_withPlace gi ga a1 a2 = some o0) : Met l yX3_withPlace (Cond.code yX3_withPlace cX3_withPlace 5 (some .int) :: gT) { frames := 2, cells := 0, slots := 0, locals := 45 } (va_Pc [.ref (xA X 5), .int a1, .int a2] (gPre X gi gl ga vS vF sN sF)) (k2_QcV (.int o0)) 0 0 (fun _ => False) := by
  refine Met.ofW (cc := cX3_withPlace) (maxL := 5) (ret := (some .int)) (by decide) rfl ?_
  intro p e s m args below meth c s₁ B hml hv
  obtain ⟨rfl, hP, hK, hN, hZ⟩ := hv
  have hx := B.exec
  have hb := B.bytes
  have hr := B.returns
  have hts := atoms_spec (ws := (Cond.code yX3_withPlace cX3_withPlace 5 (some .int) :: gT)) B.pre
  have hT : ∀ w ∈ gT, w.before _ s = true := fun w hw => hts w (List.mem_cons_of_mem _ hw)
  have hown : s.vm.findClass RX3 = some m.cls := findClass_of_methodNamed B.named
  have hlocks := B.notSynchronized
  have hS : va_S (gA X) s.heap s.heap [] := va_S.rf
  have hl := lv_entry ([.ref (xA X 5), .int a1, .int a2]) (n := 5) (Nat.le_of_ble_eq_true rfl)
  rw [lg_entry_eq]
  generalize (lg_sl ([.ref (xA X 5), .int a1, .int a2]) ++ List.replicate (5 - (lg_sl ([.ref (xA X 5), .int a1, .int a2])).length) Slot.unset).toArray = ls at hl ⊢
  have hl : lv_has ls 5 [(0, .ref (xA X 5)), (1, .int a1), (2, .int a2)] := hl
  have hL5 : ∀ (n5 : Nat) (v1 : Int32) (v2 : Int32) (v3 : Int32) (v4 : Int32) (ls : Array Slot), lv_has ls 5 [(0, .ref (xA X 5)), (1, .int v1), (2, .int v2), (3, .int v3), (4, .int v4)] → X3_withPlace_5 gi ga n5 v1 v2 v3 v4 = some o0 → W p l e (headSpec (Cond.code yX3_withPlace cX3_withPlace 5 (some .int) :: gT) { frames := 2, cells := 0, slots := 0, locals := 45 }).room s m [.ref (xA X 5), .int a1, .int a2].toArray below meth c s.heap [] 0 0 (MQ below (k2_QcV (.int o0)) [.ref (xA X 5), .int a1, .int a2].toArray s 0 0 (fun _ => False)) (F0 m 5 ls []) := by
    intro n5
    induction n5 with
    | zero =>
      intro v1 v2 v3 v4 ls hl h
      rw [X3_withPlace_5] at h
      cases h
    | succ n5 ih5 =>
      intro v1 v2 v3 v4 ls hl h
      rw [X3_withPlace_5] at h
      refine lv_iload hx hb dX3_withPlace_5 (lv_at hl 4 rfl) ?_
      refine lv_sipush (v := 128) hx hb dX3_withPlace_7 (by decide) ?_
      refine lv_icmp_ge (tgt := 38) hx hb dX3_withPlace_10 (by decide) (fun c10 => ?_) (fun c10 => ?_)
      · replace h := if_t c10 h
        refine lv_iload_n hx hb dX3_withPlace_38 rfl (lv_at hl 3 rfl) ?_
        cases h
        exact W.iret hx hb hr (fun t ht _ => ⟨rfl, ht⟩) (fun _ hq => by cases hq) dX3_withPlace_39
      · replace h := if_f c10 h
        refine lv_iload hx hb dX3_withPlace_13 (lv_at hl 4 rfl) ?_
        obtain ⟨r15, hc15, h⟩ := Option.bind_eq_some_iff.mp h
        refine rcS (As := [.int v4]) (rest := []) ⟨hx, hb, hml, hown, hts⟩ (c_J6_bitCount_0f7a4 l v4 hc15) ⟨w_652, w_357, w_63, w_358⟩ hd_J6_bitCount_0f7a4 rfl rfl ⟨(Nat.le_of_ble_eq_true rfl), (Nat.le_of_ble_eq_true rfl)⟩ ⟨Nat.zero_le _, Nat.zero_le _⟩ (fun _ _ _ _ h => h) (fun _ _ _ => trivial) rfl rfl hl.1 (Nat.le_of_ble_eq_true rfl) dX3_withPlace_15 ?_
        refine lv_iload_n hx hb dX3_withPlace_18 rfl (lv_at hl 2 rfl) ?_
        refine lv_icmp_ne (tgt := 32) hx hb dX3_withPlace_19 (by decide) (fun c19 => ?_) (fun c19 => ?_)
        · replace h := if_f c19 h
          refine lv_iinc (v := (v4 + (1 : Int32))) (lv' := [(4, .int (v4 + (1 : Int32))), (0, .ref (xA X 5)), (1, .int v1), (2, .int v2), (3, .int v3)]) hx hb dX3_withPlace_32 hl (k := 4) rfl rfl (by decide) rfl (fun ls hl => ?_)
          refine lv_goto (tgt := 5) hx hb dX3_withPlace_35 (by decide) ?_
          exact ih5 v1 v2 v3 (v4 + (1 : Int32)) ls (lv_sub hl [1, 2, 3, 4, 0] rfl) h
        · replace h := if_t c19 h
          refine lv_iload_n hx hb dX3_withPlace_22 rfl (lv_at hl 3 rfl) ?_
          refine lv_aload_n hx hb dX3_withPlace_23 rfl (lv_at hl 0 rfl) ?_
          refine lv_iload hx hb dX3_withPlace_24 (lv_at hl 4 rfl) ?_
          refine lv_iload_n hx hb dX3_withPlace_26 rfl (lv_at hl 1 rfl) ?_
          obtain ⟨r27, hc27, h⟩ := Option.bind_eq_some_iff.mp h
          refine rcV (As := [.int v4, .int v1]) (rest := [.int v3]) ⟨hx, hb, hml, hown, hts⟩ (c_X3_nextAfter l X gi gl ga vS vF sN sF v4 v1 hc27) ⟨w_653, w_655, w_7, w_55, w_656⟩ hd_X3_nextAfter rfl rfl ⟨(Nat.le_of_ble_eq_true rfl), (Nat.le_of_ble_eq_true rfl)⟩ ⟨Nat.zero_le _, Nat.zero_le _⟩ gPre_blind (va_recv hK hP (ci := 1) rfl cG_b5) (gPre_call hP hK hN hZ hS) rfl rfl hl.1 (Nat.le_of_ble_eq_true rfl) dX3_withPlace_27 ?_
          refine lv_iadd hx hb dX3_withPlace_30 ?_
          refine lv_istore_n (lv' := [(3, .int (v3 + r27)), (0, .ref (xA X 5)), (1, .int v1), (2, .int v2), (4, .int v4)]) hx hb dX3_withPlace_31 rfl hl (by decide) rfl (fun ls hl => ?_)
          refine lv_iinc (v := (v4 + (1 : Int32))) (lv' := [(4, .int (v4 + (1 : Int32))), (3, .int (v3 + r27)), (0, .ref (xA X 5)), (1, .int v1), (2, .int v2)]) hx hb dX3_withPlace_32 hl (k := 4) rfl rfl (by decide) rfl (fun ls hl => ?_)
          refine lv_goto (tgt := 5) hx hb dX3_withPlace_35 (by decide) ?_
          exact ih5 v1 v2 (v3 + r27) (v4 + (1 : Int32)) ls (lv_sub hl [2, 3, 4, 1, 0] rfl) h
  rw [X3_withPlace] at h
  refine lv_iconst (v := 0) hx hb dX3_withPlace_0 (by decide) ?_
  refine lv_istore_n (lv' := [(3, .int (0 : Int32)), (0, .ref (xA X 5)), (1, .int a1), (2, .int a2)]) hx hb dX3_withPlace_1 rfl hl (by decide) rfl (fun ls hl => ?_)
  refine lv_iconst (v := 0) hx hb dX3_withPlace_2 (by decide) ?_
  refine lv_istore (lv' := [(4, .int (0 : Int32)), (3, .int (0 : Int32)), (0, .ref (xA X 5)), (1, .int a1), (2, .int a2)]) hx hb dX3_withPlace_3 hl (by decide) rfl (fun ls hl => ?_)
  exact hL5 500 a1 a2 (0 : Int32) (0 : Int32) ls (lv_sub hl [2, 3, 4, 1, 0] rfl) h
set_option maxRecDepth 100000 in
set_option maxHeartbeats 4000000 in
theorem c_X3_withFirst (l : Launch) (X : gX) (gi : Nat → Int32) (gl : Nat → Int64) (ga : Nat → Nat → Int32) (vS : Nat → Nat → Int32) (vF : Nat → Nat → Nat → Int32) (sN : Nat → Int32) (sF : Nat → Nat → Int32) (a1 : Int32) (a2 : Int32) {o0 : Int32} (h : X3_withFirst gi ga a1 a2 = some o0) : Met l yX3_withFirst (Cond.code yX3_withFirst cX3_withFirst 5 (some .int) :: gT) { frames := 2, cells := 0, slots := 0, locals := 45 } (va_Pc [.ref (xA X 5), .int a1, .int a2] (gPre X gi gl ga vS vF sN sF)) (k2_QcV (.int o0)) 0 0 (fun _ => False) := by
  refine Met.ofW (cc := cX3_withFirst) (maxL := 5) (ret := (some .int)) (by decide) rfl ?_
  intro p e s m args below meth c s₁ B hml hv
  obtain ⟨rfl, hP, hK, hN, hZ⟩ := hv
  have hx := B.exec
  have hb := B.bytes
  have hr := B.returns
  have hts := atoms_spec (ws := (Cond.code yX3_withFirst cX3_withFirst 5 (some .int) :: gT)) B.pre
  have hT : ∀ w ∈ gT, w.before _ s = true := fun w hw => hts w (List.mem_cons_of_mem _ hw)
  have hown : s.vm.findClass RX3 = some m.cls := findClass_of_methodNamed B.named
  have hlocks := B.notSynchronized
  have hS : va_S (gA X) s.heap s.heap [] := va_S.rf
  have hl := lv_entry ([.ref (xA X 5), .int a1, .int a2]) (n := 5) (Nat.le_of_ble_eq_true rfl)
  rw [lg_entry_eq]
  generalize (lg_sl ([.ref (xA X 5), .int a1, .int a2]) ++ List.replicate (5 - (lg_sl ([.ref (xA X 5), .int a1, .int a2])).length) Slot.unset).toArray = ls at hl ⊢
  have hl : lv_has ls 5 [(0, .ref (xA X 5)), (1, .int a1), (2, .int a2)] := hl
  have hL5 : ∀ (n5 : Nat) (v1 : Int32) (v2 : Int32) (v3 : Int32) (v4 : Int32) (ls : Array Slot), lv_has ls 5 [(0, .ref (xA X 5)), (1, .int v1), (2, .int v2), (3, .int v3), (4, .int v4)] → X3_withFirst_5 gi ga n5 v1 v2 v3 v4 = some o0 → W p l e (headSpec (Cond.code yX3_withFirst cX3_withFirst 5 (some .int) :: gT) { frames := 2, cells := 0, slots := 0, locals := 45 }).room s m [.ref (xA X 5), .int a1, .int a2].toArray below meth c s.heap [] 0 0 (MQ below (k2_QcV (.int o0)) [.ref (xA X 5), .int a1, .int a2].toArray s 0 0 (fun _ => False)) (F0 m 5 ls []) := by
    intro n5
    induction n5 with
    | zero =>
      intro v1 v2 v3 v4 ls hl h
      rw [X3_withFirst_5] at h
      cases h
    | succ n5 ih5 =>
      intro v1 v2 v3 v4 ls hl h
      rw [X3_withFirst_5] at h
      refine lv_iload hx hb dX3_withFirst_5 (lv_at hl 4 rfl) ?_
      refine lv_sipush (v := 128) hx hb dX3_withFirst_7 (by decide) ?_
      refine lv_icmp_ge (tgt := 38) hx hb dX3_withFirst_10 (by decide) (fun c10 => ?_) (fun c10 => ?_)
      · replace h := if_t c10 h
        refine lv_iload_n hx hb dX3_withFirst_38 rfl (lv_at hl 3 rfl) ?_
        cases h
        exact W.iret hx hb hr (fun t ht _ => ⟨rfl, ht⟩) (fun _ hq => by cases hq) dX3_withFirst_39
      · replace h := if_f c10 h
        refine lv_iload hx hb dX3_withFirst_13 (lv_at hl 4 rfl) ?_
        refine lv_iload_n hx hb dX3_withFirst_15 rfl (lv_at hl 1 rfl) ?_
        refine lv_ishr hx hb dX3_withFirst_16 ?_
        refine lv_iconst (v := 1) hx hb dX3_withFirst_17 (by decide) ?_
        refine lv_iand hx hb dX3_withFirst_18 ?_
        refine lv_if_eq (tgt := 32) hx hb dX3_withFirst_19 (by decide) (fun c19 => ?_) (fun c19 => ?_)
        · replace h := if_t c19 h
          refine lv_iinc (v := (v4 + (1 : Int32))) (lv' := [(4, .int (v4 + (1 : Int32))), (0, .ref (xA X 5)), (1, .int v1), (2, .int v2), (3, .int v3)]) hx hb dX3_withFirst_32 hl (k := 4) rfl rfl (by decide) rfl (fun ls hl => ?_)
          refine lv_goto (tgt := 5) hx hb dX3_withFirst_35 (by decide) ?_
          exact ih5 v1 v2 v3 (v4 + (1 : Int32)) ls (lv_sub hl [1, 2, 3, 4, 0] rfl) h
        · replace h := if_f c19 h
          refine lv_iload_n hx hb dX3_withFirst_22 rfl (lv_at hl 3 rfl) ?_
          refine lv_aload_n hx hb dX3_withFirst_23 rfl (lv_at hl 0 rfl) ?_
          refine lv_iload hx hb dX3_withFirst_24 (lv_at hl 4 rfl) ?_
          refine lv_iload_n hx hb dX3_withFirst_26 rfl (lv_at hl 2 rfl) ?_
          obtain ⟨r27, hc27, h⟩ := Option.bind_eq_some_iff.mp h
          refine rcV (As := [.int v4, .int v2]) (rest := [.int v3]) ⟨hx, hb, hml, hown, hts⟩ (c_X3_nextAfter l X gi gl ga vS vF sN sF v4 v2 hc27) ⟨w_653, w_655, w_7, w_55, w_656⟩ hd_X3_nextAfter rfl rfl ⟨(Nat.le_of_ble_eq_true rfl), (Nat.le_of_ble_eq_true rfl)⟩ ⟨Nat.zero_le _, Nat.zero_le _⟩ gPre_blind (va_recv hK hP (ci := 1) rfl cG_b5) (gPre_call hP hK hN hZ hS) rfl rfl hl.1 (Nat.le_of_ble_eq_true rfl) dX3_withFirst_27 ?_
          refine lv_iadd hx hb dX3_withFirst_30 ?_
          refine lv_istore_n (lv' := [(3, .int (v3 + r27)), (0, .ref (xA X 5)), (1, .int v1), (2, .int v2), (4, .int v4)]) hx hb dX3_withFirst_31 rfl hl (by decide) rfl (fun ls hl => ?_)
          refine lv_iinc (v := (v4 + (1 : Int32))) (lv' := [(4, .int (v4 + (1 : Int32))), (3, .int (v3 + r27)), (0, .ref (xA X 5)), (1, .int v1), (2, .int v2)]) hx hb dX3_withFirst_32 hl (k := 4) rfl rfl (by decide) rfl (fun ls hl => ?_)
          refine lv_goto (tgt := 5) hx hb dX3_withFirst_35 (by decide) ?_
          exact ih5 v1 v2 (v3 + r27) (v4 + (1 : Int32)) ls (lv_sub hl [2, 3, 4, 1, 0] rfl) h
  rw [X3_withFirst] at h
  refine lv_iconst (v := 0) hx hb dX3_withFirst_0 (by decide) ?_
  refine lv_istore_n (lv' := [(3, .int (0 : Int32)), (0, .ref (xA X 5)), (1, .int a1), (2, .int a2)]) hx hb dX3_withFirst_1 rfl hl (by decide) rfl (fun ls hl => ?_)
  refine lv_iconst (v := 0) hx hb dX3_withFirst_2 (by decide) ?_
  refine lv_istore (lv' := [(4, .int (0 : Int32)), (3, .int (0 : Int32)), (0, .ref (xA X 5)), (1, .int a1), (2, .int a2)]) hx hb dX3_withFirst_3 hl (by decide) rfl (fun ls hl => ?_)
  exact hL5 500 a1 a2 (0 : Int32) (0 : Int32) ls (lv_sub hl [2, 3, 4, 1, 0] rfl) h
