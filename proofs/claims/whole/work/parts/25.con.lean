set_option maxRecDepth 100000 in
set_option maxHeartbeats 4000000 in
theorem c_X8_undo (l : Launch) (X : gX) (gi : Nat → Int32) (gl : Nat → Int64) (ga : Nat → Nat → Int32) (vS : Nat → Nat → Int32) (vF : Nat → Nat → Nat → Int32) (sN : Nat → Int32) (sF : Nat → Nat → Int32) (a1 : Int32) {o0 : Int32} {o_vS : Nat → Nat → Int32} {o_vF : Nat → Nat → Nat → Int32} (h : X8_undo a1 vS vF = some (o0, o_vS, o_vF)) : Met l yX8_undo (Cond.code yX8_undo cX8_undo 3 (some .int) :: gT) { frames := 4, cells := 0, slots := 0, locals := 102 } (va_Pc [.ref (xA X 0), .int a1] (gPre X gi gl ga vS vF sN sF)) (wQ (some (.int o0)) (fun H => va_P X.1 vwCl (cG X gi gl ga o_vS o_vF sN sF) H) (gA X)) 0 0 (gA X) := by
  refine Met.ofW (cc := cX8_undo) (maxL := 3) (ret := (some .int)) (by decide) rfl ?_
  intro p e s m args below meth c s₁ B hml hv
  obtain ⟨rfl, hP, hK, hN, hZ⟩ := hv
  have hx := B.exec
  have hb := B.bytes
  have hr := B.returns
  have hts := atoms_spec (ws := (Cond.code yX8_undo cX8_undo 3 (some .int) :: gT)) B.pre
  have hT : ∀ w ∈ gT, w.before _ s = true := fun w hw => hts w (List.mem_cons_of_mem _ hw)
  have hown : s.vm.findClass RX8 = some m.cls := findClass_of_methodNamed B.named
  have hlocks := B.notSynchronized
  have hS : va_S (gA X) s.heap s.heap [] := va_S.rf
  have hl := lv_entry ([.ref (xA X 0), .int a1]) (n := 3) (Nat.le_of_ble_eq_true rfl)
  rw [lg_entry_eq]
  generalize (lg_sl ([.ref (xA X 0), .int a1]) ++ List.replicate (3 - (lg_sl ([.ref (xA X 0), .int a1])).length) Slot.unset).toArray = ls at hl ⊢
  have hl : lv_has ls 3 [(0, .ref (xA X 0)), (1, .int a1)] := hl
  rw [X8_undo] at h
  refine lv_iload_n hx hb dX8_undo_0 rfl (lv_at hl 1 rfl) ?_
  refine lv_if_lt (tgt := 15) hx hb dX8_undo_1 (by decide) (fun c1 => ?_) (fun c1 => ?_)
  · replace h := if_t c1 h
    refine lv_iconst (v := -1) hx hb dX8_undo_15 (by decide) ?_
    cases h
    exact W.iret hx hb hr (fun t ht _ => ⟨rfl, by rw [ht]; exact hP, hS.F ht⟩) hS.2.2 dX8_undo_16
  · replace h := if_f c1 h
    refine lv_iload_n hx hb dX8_undo_4 rfl (lv_at hl 1 rfl) ?_
    refine lv_aload_n hx hb dX8_undo_5 rfl (lv_at hl 0 rfl) ?_
    refine rg_G_village hx hb hT hown hK hP w_188 dX8_undo_6 ?_
    refine rg_V_deeds (q := (0)) hx hb hT hown hK hP (by decide : 0 < 4) w_91 dX8_undo_9 ?_
    refine lv_icmp_le (tgt := 17) hx hb dX8_undo_12 (by decide) (fun c12 => ?_) (fun c12 => ?_)
    · replace h := if_t c12 h
      refine lv_aload_n hx hb dX8_undo_17 rfl (lv_at hl 0 rfl) ?_
      refine rg_G_village hx hb hT hown hK hP w_188 dX8_undo_18 ?_
      refine rg_V_deeds (q := (0)) hx hb hT hown hK hP (by decide : 0 < 4) w_91 dX8_undo_21 ?_
      refine lv_iload_n hx hb dX8_undo_24 rfl (lv_at hl 1 rfl) ?_
      refine lv_isub hx hb dX8_undo_25 ?_
      refine lv_istore_n (lv' := [(2, .int ((vS (0) 2) - a1)), (0, .ref (xA X 0)), (1, .int a1)]) hx hb dX8_undo_26 rfl hl (by decide) rfl (fun ls hl => ?_)
      refine lv_aload_n hx hb dX8_undo_27 rfl (lv_at hl 1 rfl) ?_
      refine rg_G_village hx hb hT hown hK hP w_188 dX8_undo_28 ?_
      refine lv_iload_n hx hb dX8_undo_31 rfl (lv_at hl 2 rfl) ?_
      obtain ⟨vS_32, vF_32, hc32, h⟩ := bd2_e h
      refine wcV (As := [.int a1]) (rest := []) ⟨hx, hb, hml, hown, hts⟩ (c_X7_goBackTo l X gi gl ga vS vF sN sF a1 hc32) ⟨w_476, w_477, w_478, w_53, w_479⟩ hd_X7_goBackTo rfl rfl ⟨(Nat.le_of_ble_eq_true rfl), (Nat.le_of_ble_eq_true rfl)⟩ ⟨Nat.zero_le _, Nat.zero_le _⟩ gPre_blind (va_recv hK hP (ci := 3) rfl (cG_v (by decide : 0 < 4))) (gPre_call hP hK hN hZ hS) hS (fun _ h => h) rfl rfl hl.1 (Nat.le_of_ble_eq_true rfl) dX8_undo_32 (fun H locs hP _ hS => ?_)
      have hP : va_P X.1 vwCl (cG X gi gl ga vS_32 vF_32 sN sF) H := hP
      refine W.eq (g2 := F0 m 35 ls []) rfl ?_
      refine lv_iload_n hx hb dX8_undo_35 rfl (lv_at hl 0 rfl) ?_
      cases h
      exact W.iret hx hb hr (fun t ht _ => ⟨rfl, by rw [ht]; exact hP, hS.F ht⟩) hS.2.2 dX8_undo_36
    · replace h := if_f c12 h
      refine lv_iconst (v := -1) hx hb dX8_undo_15 (by decide) ?_
      cases h
      exact W.iret hx hb hr (fun t ht _ => ⟨rfl, by rw [ht]; exact hP, hS.F ht⟩) hS.2.2 dX8_undo_16
set_option maxRecDepth 100000 in
set_option maxHeartbeats 4000000 in
theorem c_X8_stuck (l : Launch) (X : gX) (gi : Nat → Int32) (gl : Nat → Int64) (ga : Nat → Nat → Int32) (vS : Nat → Nat → Int32) (vF : Nat → Nat → Nat → Int32) (sN : Nat → Int32) (sF : Nat → Nat → Int32) {o0 : Int32} (h : X8_stuck vS vF = some o0) : Met l yX8_stuck (Cond.code yX8_stuck cX8_stuck 1 (some .int) :: gT) { frames := 2, cells := 0, slots := 0, locals := 43 } (va_Pc [.ref (xA X 0)] (gPre X gi gl ga vS vF sN sF)) (k2_QcV (.int o0)) 0 0 (fun _ => False) := by
  refine Met.ofW (cc := cX8_stuck) (maxL := 1) (ret := (some .int)) (by decide) rfl ?_
  intro p e s m args below meth c s₁ B hml hv
  obtain ⟨rfl, hP, hK, hN, hZ⟩ := hv
  have hx := B.exec
  have hb := B.bytes
  have hr := B.returns
  have hts := atoms_spec (ws := (Cond.code yX8_stuck cX8_stuck 1 (some .int) :: gT)) B.pre
  have hT : ∀ w ∈ gT, w.before _ s = true := fun w hw => hts w (List.mem_cons_of_mem _ hw)
  have hown : s.vm.findClass RX8 = some m.cls := findClass_of_methodNamed B.named
  have hlocks := B.notSynchronized
  have hS : va_S (gA X) s.heap s.heap [] := va_S.rf
  have hl := lv_entry ([.ref (xA X 0)]) (n := 1) (Nat.le_of_ble_eq_true rfl)
  rw [lg_entry_eq]
  generalize (lg_sl ([.ref (xA X 0)]) ++ List.replicate (1 - (lg_sl ([.ref (xA X 0)])).length) Slot.unset).toArray = ls at hl ⊢
  have hl : lv_has ls 1 [(0, .ref (xA X 0))] := hl
  rw [X8_stuck] at h
  refine lv_aload_n hx hb dX8_stuck_0 rfl (lv_at hl 0 rfl) ?_
  refine rg_G_village hx hb hT hown hK hP w_188 dX8_stuck_1 ?_
  obtain ⟨r4, hc4, h⟩ := Option.bind_eq_some_iff.mp h
  refine rcV (As := []) (rest := []) ⟨hx, hb, hml, hown, hts⟩ (c_X7_stuckSet l X gi gl ga vS vF sN sF hc4) ⟨w_485, w_391, w_392, w_53, w_393⟩ hd_X7_stuckSet rfl rfl ⟨(Nat.le_of_ble_eq_true rfl), (Nat.le_of_ble_eq_true rfl)⟩ ⟨Nat.zero_le _, Nat.zero_le _⟩ gPre_blind (va_recv hK hP (ci := 3) rfl (cG_v (by decide : 0 < 4))) (gPre_call hP hK hN hZ hS) rfl rfl hl.1 (Nat.le_of_ble_eq_true rfl) dX8_stuck_4 ?_
  cases h
  exact W.iret hx hb hr (fun t ht _ => ⟨rfl, ht⟩) (fun _ hq => by cases hq) dX8_stuck_7
set_option maxRecDepth 100000 in
set_option maxHeartbeats 4000000 in
theorem c_X8_canLaugh (l : Launch) (X : gX) (gi : Nat → Int32) (gl : Nat → Int64) (ga : Nat → Nat → Int32) (vS : Nat → Nat → Int32) (vF : Nat → Nat → Nat → Int32) (sN : Nat → Int32) (sF : Nat → Nat → Int32) {o0 : Int32} (h : X8_canLaugh vS vF = some o0) : Met l yX8_canLaugh (Cond.code yX8_canLaugh cX8_canLaugh 3 (some .int) :: gT) { frames := 5, cells := 0, slots := 0, locals := 110 } (va_Pc [.ref (xA X 0)] (gPre X gi gl ga vS vF sN sF)) (k2_QcV (.int o0)) 0 0 (fun _ => False) := by
  refine Met.ofW (cc := cX8_canLaugh) (maxL := 3) (ret := (some .int)) (by decide) rfl ?_
  intro p e s m args below meth c s₁ B hml hv
  obtain ⟨rfl, hP, hK, hN, hZ⟩ := hv
  have hx := B.exec
  have hb := B.bytes
  have hr := B.returns
  have hts := atoms_spec (ws := (Cond.code yX8_canLaugh cX8_canLaugh 3 (some .int) :: gT)) B.pre
  have hT : ∀ w ∈ gT, w.before _ s = true := fun w hw => hts w (List.mem_cons_of_mem _ hw)
  have hown : s.vm.findClass RX8 = some m.cls := findClass_of_methodNamed B.named
  have hlocks := B.notSynchronized
  have hS : va_S (gA X) s.heap s.heap [] := va_S.rf
  have hl := lv_entry ([.ref (xA X 0)]) (n := 3) (Nat.le_of_ble_eq_true rfl)
  rw [lg_entry_eq]
  generalize (lg_sl ([.ref (xA X 0)]) ++ List.replicate (3 - (lg_sl ([.ref (xA X 0)])).length) Slot.unset).toArray = ls at hl ⊢
  have hl : lv_has ls 3 [(0, .ref (xA X 0))] := hl
  have hL4 : ∀ (n4 : Nat) (v1 : Int32) (v2 : Int32) (ls : Array Slot), lv_has ls 3 [(0, .ref (xA X 0)), (1, .int v1), (2, .int v2)] → X8_canLaugh_4 vS vF n4 v1 v2 = some o0 → W p l e (headSpec (Cond.code yX8_canLaugh cX8_canLaugh 3 (some .int) :: gT) { frames := 5, cells := 0, slots := 0, locals := 110 }).room s m [.ref (xA X 0)].toArray below meth c s.heap [] 0 0 (MQ below (k2_QcV (.int o0)) [.ref (xA X 0)].toArray s 0 0 (fun _ => False)) (F0 m 4 ls []) := by
    intro n4
    induction n4 with
    | zero =>
      intro v1 v2 ls hl h
      rw [X8_canLaugh_4] at h
      cases h
    | succ n4 ih4 =>
      intro v1 v2 ls hl h
      rw [X8_canLaugh_4] at h
      refine lv_iload_n hx hb dX8_canLaugh_4 rfl (lv_at hl 2 rfl) ?_
      refine lv_aload_n hx hb dX8_canLaugh_5 rfl (lv_at hl 0 rfl) ?_
      refine rg_G_village hx hb hT hown hK hP w_188 dX8_canLaugh_6 ?_
      refine rg_V_people (q := (0)) hx hb hT hown hK hP (by decide : 0 < 4) w_87 dX8_canLaugh_9 ?_
      refine lv_icmp_ge (tgt := 38) hx hb dX8_canLaugh_12 (by decide) (fun c12 => ?_) (fun c12 => ?_)
      · replace h := if_t c12 h
        refine lv_iload_n hx hb dX8_canLaugh_38 rfl (lv_at hl 1 rfl) ?_
        cases h
        exact W.iret hx hb hr (fun t ht _ => ⟨rfl, ht⟩) (fun _ hq => by cases hq) dX8_canLaugh_39
      · replace h := if_f c12 h
        refine lv_aload_n hx hb dX8_canLaugh_15 rfl (lv_at hl 0 rfl) ?_
        refine rg_G_village hx hb hT hown hK hP w_188 dX8_canLaugh_16 ?_
        refine lv_iload_n hx hb dX8_canLaugh_19 rfl (lv_at hl 2 rfl) ?_
        obtain ⟨r20, hc20, h⟩ := Option.bind_eq_some_iff.mp h
        refine rcV (As := [.int v2]) (rest := []) ⟨hx, hb, hml, hown, hts⟩ (c_X7_isAmused l X gi gl ga vS vF sN sF v2 hc20) ⟨w_453, w_454, w_455, w_53, w_456⟩ hd_X7_isAmused rfl rfl ⟨(Nat.le_of_ble_eq_true rfl), (Nat.le_of_ble_eq_true rfl)⟩ ⟨Nat.zero_le _, Nat.zero_le _⟩ gPre_blind (va_recv hK hP (ci := 3) rfl (cG_v (by decide : 0 < 4))) (gPre_call hP hK hN hZ hS) rfl rfl hl.1 (Nat.le_of_ble_eq_true rfl) dX8_canLaugh_20 ?_
        refine lv_if_eq (tgt := 32) hx hb dX8_canLaugh_23 (by decide) (fun c23 => ?_) (fun c23 => ?_)
        · replace h := if_t c23 h
          refine lv_iinc (v := (v2 + (1 : Int32))) (lv' := [(2, .int (v2 + (1 : Int32))), (0, .ref (xA X 0)), (1, .int v1)]) hx hb dX8_canLaugh_32 hl (k := 2) rfl rfl (by decide) rfl (fun ls hl => ?_)
          refine lv_goto (tgt := 4) hx hb dX8_canLaugh_35 (by decide) ?_
          exact ih4 v1 (v2 + (1 : Int32)) ls (lv_sub hl [1, 2, 0] rfl) h
        · replace h := if_f c23 h
          refine lv_iload_n hx hb dX8_canLaugh_26 rfl (lv_at hl 1 rfl) ?_
          refine lv_iconst (v := 1) hx hb dX8_canLaugh_27 (by decide) ?_
          refine lv_iload_n hx hb dX8_canLaugh_28 rfl (lv_at hl 2 rfl) ?_
          refine lv_ishl hx hb dX8_canLaugh_29 ?_
          refine lv_ior hx hb dX8_canLaugh_30 ?_
          refine lv_istore_n (lv' := [(1, .int (v1 ||| ((1 : Int32) <<< (v2 &&& 31)))), (0, .ref (xA X 0)), (2, .int v2)]) hx hb dX8_canLaugh_31 rfl hl (by decide) rfl (fun ls hl => ?_)
          refine lv_iinc (v := (v2 + (1 : Int32))) (lv' := [(2, .int (v2 + (1 : Int32))), (1, .int (v1 ||| ((1 : Int32) <<< (v2 &&& 31)))), (0, .ref (xA X 0))]) hx hb dX8_canLaugh_32 hl (k := 2) rfl rfl (by decide) rfl (fun ls hl => ?_)
          refine lv_goto (tgt := 4) hx hb dX8_canLaugh_35 (by decide) ?_
          exact ih4 (v1 ||| ((1 : Int32) <<< (v2 &&& 31))) (v2 + (1 : Int32)) ls (lv_sub hl [2, 1, 0] rfl) h
  rw [X8_canLaugh] at h
  refine lv_iconst (v := 0) hx hb dX8_canLaugh_0 (by decide) ?_
  refine lv_istore_n (lv' := [(1, .int (0 : Int32)), (0, .ref (xA X 0))]) hx hb dX8_canLaugh_1 rfl hl (by decide) rfl (fun ls hl => ?_)
  refine lv_iconst (v := 0) hx hb dX8_canLaugh_2 (by decide) ?_
  refine lv_istore_n (lv' := [(2, .int (0 : Int32)), (1, .int (0 : Int32)), (0, .ref (xA X 0))]) hx hb dX8_canLaugh_3 rfl hl (by decide) rfl (fun ls hl => ?_)
  exact hL4 500 (0 : Int32) (0 : Int32) ls (lv_sub hl [2, 1, 0] rfl) h
set_option maxRecDepth 100000 in
set_option maxHeartbeats 4000000 in
theorem c_X8_hang (l : Launch) (X : gX) (gi : Nat → Int32) (gl : Nat → Int64) (ga : Nat → Nat → Int32) (vS : Nat → Nat → Int32) (vF : Nat → Nat → Nat → Int32) (sN : Nat → Int32) (sF : Nat → Nat → Int32) (a1 : Int32) {o0 : Int32} (h : X8_hang vS vF a1 = some o0) : Met l yX8_hang (Cond.code yX8_hang cX8_hang 2 (some .int) :: gT) { frames := 2, cells := 0, slots := 0, locals := 44 } (va_Pc [.ref (xA X 0), .int a1] (gPre X gi gl ga vS vF sN sF)) (k2_QcV (.int o0)) 0 0 (fun _ => False) := by
  refine Met.ofW (cc := cX8_hang) (maxL := 2) (ret := (some .int)) (by decide) rfl ?_
  intro p e s m args below meth c s₁ B hml hv
  obtain ⟨rfl, hP, hK, hN, hZ⟩ := hv
  have hx := B.exec
  have hb := B.bytes
  have hr := B.returns
  have hts := atoms_spec (ws := (Cond.code yX8_hang cX8_hang 2 (some .int) :: gT)) B.pre
  have hT : ∀ w ∈ gT, w.before _ s = true := fun w hw => hts w (List.mem_cons_of_mem _ hw)
  have hown : s.vm.findClass RX8 = some m.cls := findClass_of_methodNamed B.named
  have hlocks := B.notSynchronized
  have hS : va_S (gA X) s.heap s.heap [] := va_S.rf
  have hl := lv_entry ([.ref (xA X 0), .int a1]) (n := 2) (Nat.le_of_ble_eq_true rfl)
  rw [lg_entry_eq]
  generalize (lg_sl ([.ref (xA X 0), .int a1]) ++ List.replicate (2 - (lg_sl ([.ref (xA X 0), .int a1])).length) Slot.unset).toArray = ls at hl ⊢
  have hl : lv_has ls 2 [(0, .ref (xA X 0)), (1, .int a1)] := hl
  rw [X8_hang] at h
  refine lv_aload_n hx hb dX8_hang_0 rfl (lv_at hl 0 rfl) ?_
  refine rg_G_village hx hb hT hown hK hP w_188 dX8_hang_1 ?_
  refine lv_iload_n hx hb dX8_hang_4 rfl (lv_at hl 1 rfl) ?_
  obtain ⟨r5, hc5, h⟩ := Option.bind_eq_some_iff.mp h
  refine rcV (As := [.int a1]) (rest := []) ⟨hx, hb, hml, hown, hts⟩ (c_X7_isHold l X gi gl ga vS vF sN sF a1 hc5) ⟨w_425, w_426, w_427, w_53, w_428⟩ hd_X7_isHold rfl rfl ⟨(Nat.le_of_ble_eq_true rfl), (Nat.le_of_ble_eq_true rfl)⟩ ⟨Nat.zero_le _, Nat.zero_le _⟩ gPre_blind (va_recv hK hP (ci := 3) rfl (cG_v (by decide : 0 < 4))) (gPre_call hP hK hN hZ hS) rfl rfl hl.1 (Nat.le_of_ble_eq_true rfl) dX8_hang_5 ?_
  refine lv_if_ne (tgt := 13) hx hb dX8_hang_8 (by decide) (fun c8 => ?_) (fun c8 => ?_)
  · replace h := if_f c8 h
    refine lv_aload_n hx hb dX8_hang_13 rfl (lv_at hl 0 rfl) ?_
    refine rg_G_village hx hb hT hown hK hP w_188 dX8_hang_14 ?_
    refine lv_iload_n hx hb dX8_hang_17 rfl (lv_at hl 1 rfl) ?_
    obtain ⟨r18, hc18, h⟩ := Option.bind_eq_some_iff.mp h
    refine rcV (As := [.int a1]) (rest := []) ⟨hx, hb, hml, hown, hts⟩ (c_X7_hangers l X gi gl ga vS vF sN sF a1 hc18) ⟨w_494, w_400, w_401, w_53, w_402⟩ hd_X7_hangers rfl rfl ⟨(Nat.le_of_ble_eq_true rfl), (Nat.le_of_ble_eq_true rfl)⟩ ⟨Nat.zero_le _, Nat.zero_le _⟩ gPre_blind (va_recv hK hP (ci := 3) rfl (cG_v (by decide : 0 < 4))) (gPre_call hP hK hN hZ hS) rfl rfl hl.1 (Nat.le_of_ble_eq_true rfl) dX8_hang_18 ?_
    cases h
    exact W.iret hx hb hr (fun t ht _ => ⟨rfl, ht⟩) (fun _ hq => by cases hq) dX8_hang_21
  · replace h := if_t c8 h
    refine lv_iconst (v := -1) hx hb dX8_hang_11 (by decide) ?_
    cases h
    exact W.iret hx hb hr (fun t ht _ => ⟨rfl, ht⟩) (fun _ hq => by cases hq) dX8_hang_12
set_option maxRecDepth 100000 in
set_option maxHeartbeats 4000000 in
theorem c_X8_keep (l : Launch) (X : gX) (gi : Nat → Int32) (gl : Nat → Int64) (ga : Nat → Nat → Int32) (vS : Nat → Nat → Int32) (vF : Nat → Nat → Nat → Int32) (sN : Nat → Int32) (sF : Nat → Nat → Int32) (a1 : Int32) {o0 : Int32} {o_vS : Nat → Nat → Int32} {o_vF : Nat → Nat → Nat → Int32} (h : X8_keep a1 vS vF = some (o0, o_vS, o_vF)) : Met l yX8_keep (Cond.code yX8_keep cX8_keep 2 (some .int) :: gT) { frames := 2, cells := 0, slots := 0, locals := 81 } (va_Pc [.ref (xA X 0), .int a1] (gPre X gi gl ga vS vF sN sF)) (wQ (some (.int o0)) (fun H => va_P X.1 vwCl (cG X gi gl ga o_vS o_vF sN sF) H) (gA X)) 0 0 (gA X) := by
  refine Met.ofW (cc := cX8_keep) (maxL := 2) (ret := (some .int)) (by decide) rfl ?_
  intro p e s m args below meth c s₁ B hml hv
  obtain ⟨rfl, hP, hK, hN, hZ⟩ := hv
  have hx := B.exec
  have hb := B.bytes
  have hr := B.returns
  have hts := atoms_spec (ws := (Cond.code yX8_keep cX8_keep 2 (some .int) :: gT)) B.pre
  have hT : ∀ w ∈ gT, w.before _ s = true := fun w hw => hts w (List.mem_cons_of_mem _ hw)
  have hown : s.vm.findClass RX8 = some m.cls := findClass_of_methodNamed B.named
  have hlocks := B.notSynchronized
  have hS : va_S (gA X) s.heap s.heap [] := va_S.rf
  have hl := lv_entry ([.ref (xA X 0), .int a1]) (n := 2) (Nat.le_of_ble_eq_true rfl)
  rw [lg_entry_eq]
  generalize (lg_sl ([.ref (xA X 0), .int a1]) ++ List.replicate (2 - (lg_sl ([.ref (xA X 0), .int a1])).length) Slot.unset).toArray = ls at hl ⊢
  have hl : lv_has ls 2 [(0, .ref (xA X 0)), (1, .int a1)] := hl
  rw [X8_keep] at h
  refine lv_iload_n hx hb dX8_keep_0 rfl (lv_at hl 1 rfl) ?_
  obtain ⟨r1, hc1, h⟩ := Option.bind_eq_some_iff.mp h
  refine rcS (As := [.int a1]) (rest := []) ⟨hx, hb, hml, hown, hts⟩ (c_X8_isKept l a1 hc1) ⟨w_510, w_511, w_52, w_512⟩ hd_X8_isKept rfl rfl ⟨(Nat.le_of_ble_eq_true rfl), (Nat.le_of_ble_eq_true rfl)⟩ ⟨Nat.zero_le _, Nat.zero_le _⟩ (fun _ _ _ _ h => h) (fun _ _ _ => trivial) rfl rfl hl.1 (Nat.le_of_ble_eq_true rfl) dX8_keep_1 ?_
  refine lv_if_ne (tgt := 9) hx hb dX8_keep_4 (by decide) (fun c4 => ?_) (fun c4 => ?_)
  · replace h := if_f c4 h
    refine lv_aload_n hx hb dX8_keep_9 rfl (lv_at hl 0 rfl) ?_
    refine rg_G_village hx hb hT hown hK hP w_188 dX8_keep_10 ?_
    refine rg_V_people (q := (0)) hx hb hT hown hK hP (by decide : 0 < 4) w_87 dX8_keep_13 ?_
    refine lv_if_ne (tgt := 22) hx hb dX8_keep_16 (by decide) (fun c16 => ?_) (fun c16 => ?_)
    · replace h := if_f c16 h
      refine lv_aload_n hx hb dX8_keep_22 rfl (lv_at hl 0 rfl) ?_
      refine rg_G_kept hx hb hT hown hK hP w_189 dX8_keep_23 ?_
      refine lv_iload_n hx hb dX8_keep_26 rfl (lv_at hl 1 rfl) ?_
      obtain ⟨hi27, h⟩ := gd_e h
      refine rr_kept hx hb hK hP (ib_in hi27) dX8_keep_27 ?_
      refine lv_aload_n hx hb dX8_keep_28 rfl (lv_at hl 0 rfl) ?_
      refine rg_G_village hx hb hT hown hK hP w_188 dX8_keep_29 ?_
      obtain ⟨vS_32, vF_32, hc32, h⟩ := bd2_e h
      refine wcV (As := [.ref (xAV X (0) 0)]) (rest := []) ⟨hx, hb, hml, hown, hts⟩ (c_X7_become l X gi gl ga vS vF sN sF (1 + a1.toNatClampNeg) (gq3 (ib_in hi27)) (0) (by decide : 0 < 4) hc32) ⟨w_513, w_514, w_515, w_53, w_516⟩ hd_X7_become rfl rfl ⟨(Nat.le_of_ble_eq_true rfl), (Nat.le_of_ble_eq_true rfl)⟩ ⟨Nat.zero_le _, Nat.zero_le _⟩ gPre_blind (va_recv hK hP (ci := 3) rfl (cG_v (gq3 (ib_in hi27)))) (gPre_call hP hK hN hZ hS) hS (fun _ h => h) rfl rfl hl.1 (Nat.le_of_ble_eq_true rfl) dX8_keep_32 (fun H locs hP _ hS => ?_)
      have hP : va_P X.1 vwCl (cG X gi gl ga vS_32 vF_32 sN sF) H := hP
      refine W.eq (g2 := F0 m 35 ls []) rfl ?_
      refine lv_aload_n hx hb dX8_keep_35 rfl (lv_at hl 0 rfl) ?_
      refine rg_G_village hx hb hT hown hK hP w_188 dX8_keep_36 ?_
      refine rg_V_deeds (q := (0)) hx hb hT hown hK hP (by decide : 0 < 4) w_91 dX8_keep_39 ?_
      cases h
      exact W.iret hx hb hr (fun t ht _ => ⟨rfl, by rw [ht]; exact hP, hS.F ht⟩) hS.2.2 dX8_keep_42
    · replace h := if_t c16 h
      refine lv_bipush (v := -4) hx hb dX8_keep_19 (by decide) ?_
      cases h
      exact W.iret hx hb hr (fun t ht _ => ⟨rfl, by rw [ht]; exact hP, hS.F ht⟩) hS.2.2 dX8_keep_21
  · replace h := if_t c4 h
    refine lv_iconst (v := -1) hx hb dX8_keep_7 (by decide) ?_
    cases h
    exact W.iret hx hb hr (fun t ht _ => ⟨rfl, by rw [ht]; exact hP, hS.F ht⟩) hS.2.2 dX8_keep_8
set_option maxRecDepth 100000 in
set_option maxHeartbeats 4000000 in
theorem c_X8_on (l : Launch) (X : gX) (gi : Nat → Int32) (gl : Nat → Int64) (ga : Nat → Nat → Int32) (vS : Nat → Nat → Int32) (vF : Nat → Nat → Nat → Int32) (sN : Nat → Int32) (sF : Nat → Nat → Int32) (a1 : Int32) {o0 : Int32} {o_gi : Nat → Int32} {o_ga : Nat → Nat → Int32} {o_vS : Nat → Nat → Int32} {o_vF : Nat → Nat → Nat → Int32} (h : X8_on a1 gi ga vS vF = some (o0, o_gi, o_ga, o_vS, o_vF)) : Met l yX8_on (Cond.code yX8_on cX8_on 2 (some .int) :: gT) { frames := 2, cells := 0, slots := 0, locals := 81 } (va_Pc [.ref (xA X 0), .int a1] (gPre X gi gl ga vS vF sN sF)) (wQ (some (.int o0)) (fun H => va_P X.1 vwCl (cG X o_gi gl o_ga o_vS o_vF sN sF) H) (gA X)) 0 0 (gA X) := by
  refine Met.ofW (cc := cX8_on) (maxL := 2) (ret := (some .int)) (by decide) rfl ?_
  intro p e s m args below meth c s₁ B hml hv
  obtain ⟨rfl, hP, hK, hN, hZ⟩ := hv
  have hx := B.exec
  have hb := B.bytes
  have hr := B.returns
  have hts := atoms_spec (ws := (Cond.code yX8_on cX8_on 2 (some .int) :: gT)) B.pre
  have hT : ∀ w ∈ gT, w.before _ s = true := fun w hw => hts w (List.mem_cons_of_mem _ hw)
  have hown : s.vm.findClass RX8 = some m.cls := findClass_of_methodNamed B.named
  have hlocks := B.notSynchronized
  have hS : va_S (gA X) s.heap s.heap [] := va_S.rf
  have hl := lv_entry ([.ref (xA X 0), .int a1]) (n := 2) (Nat.le_of_ble_eq_true rfl)
  rw [lg_entry_eq]
  generalize (lg_sl ([.ref (xA X 0), .int a1]) ++ List.replicate (2 - (lg_sl ([.ref (xA X 0), .int a1])).length) Slot.unset).toArray = ls at hl ⊢
  have hl : lv_has ls 2 [(0, .ref (xA X 0)), (1, .int a1)] := hl
  rw [X8_on] at h
  refine lv_iload_n hx hb dX8_on_0 rfl (lv_at hl 1 rfl) ?_
  obtain ⟨r1, hc1, h⟩ := Option.bind_eq_some_iff.mp h
  refine rcS (As := [.int a1]) (rest := []) ⟨hx, hb, hml, hown, hts⟩ (c_X8_isKept l a1 hc1) ⟨w_510, w_511, w_52, w_512⟩ hd_X8_isKept rfl rfl ⟨(Nat.le_of_ble_eq_true rfl), (Nat.le_of_ble_eq_true rfl)⟩ ⟨Nat.zero_le _, Nat.zero_le _⟩ (fun _ _ _ _ h => h) (fun _ _ _ => trivial) rfl rfl hl.1 (Nat.le_of_ble_eq_true rfl) dX8_on_1 ?_
  refine lv_if_ne (tgt := 9) hx hb dX8_on_4 (by decide) (fun c4 => ?_) (fun c4 => ?_)
  · replace h := if_f c4 h
    refine lv_aload_n hx hb dX8_on_9 rfl (lv_at hl 0 rfl) ?_
    refine rg_G_kept hx hb hT hown hK hP w_189 dX8_on_10 ?_
    refine lv_iload_n hx hb dX8_on_13 rfl (lv_at hl 1 rfl) ?_
    obtain ⟨hi14, h⟩ := gd_e h
    refine rr_kept hx hb hK hP (ib_in hi14) dX8_on_14 ?_
    refine rg_V_people (q := (1 + a1.toNatClampNeg)) hx hb hT hown hK hP (gq3 (ib_in hi14)) w_87 dX8_on_15 ?_
    refine lv_if_ne (tgt := 27) hx hb dX8_on_18 (by decide) (fun c18 => ?_) (fun c18 => ?_)
    · replace h := if_f c18 h
      refine lv_aload_n hx hb dX8_on_27 rfl (lv_at hl 0 rfl) ?_
      refine rg_G_village hx hb hT hown hK hP w_188 dX8_on_28 ?_
      refine lv_aload_n hx hb dX8_on_31 rfl (lv_at hl 0 rfl) ?_
      refine rg_G_kept hx hb hT hown hK hP w_189 dX8_on_32 ?_
      refine lv_iload_n hx hb dX8_on_35 rfl (lv_at hl 1 rfl) ?_
      obtain ⟨hi36, h⟩ := gd_e h
      refine rr_kept hx hb hK hP (ib_in hi36) dX8_on_36 ?_
      obtain ⟨vS_37, vF_37, hc37, h⟩ := bd2_e h
      refine wcV (As := [.ref (xAV X (1 + a1.toNatClampNeg) 0)]) (rest := []) ⟨hx, hb, hml, hown, hts⟩ (c_X7_become l X gi gl ga vS vF sN sF (0) (by decide : 0 < 4) (1 + a1.toNatClampNeg) (gq3 (ib_in hi36)) hc37) ⟨w_513, w_514, w_515, w_53, w_516⟩ hd_X7_become rfl rfl ⟨(Nat.le_of_ble_eq_true rfl), (Nat.le_of_ble_eq_true rfl)⟩ ⟨Nat.zero_le _, Nat.zero_le _⟩ gPre_blind (va_recv hK hP (ci := 3) rfl (cG_v (by decide : 0 < 4))) (gPre_call hP hK hN hZ hS) hS (fun _ h => h) rfl rfl hl.1 (Nat.le_of_ble_eq_true rfl) dX8_on_37 (fun H locs hP _ hS => ?_)
      have hP : va_P X.1 vwCl (cG X gi gl ga vS_37 vF_37 sN sF) H := hP
      refine W.eq (g2 := F0 m 40 ls []) rfl ?_
      refine lv_aload_n hx hb dX8_on_40 rfl (lv_at hl 0 rfl) ?_
      refine rg_G_village hx hb hT hown hK hP w_188 dX8_on_41 ?_
      refine rg_V_deeds (q := (0)) hx hb hT hown hK hP (by decide : 0 < 4) w_91 dX8_on_44 ?_
      cases h
      exact W.iret hx hb hr (fun t ht _ => ⟨rfl, by rw [ht]; exact hP, hS.F ht⟩) hS.2.2 dX8_on_47
    · replace h := if_t c18 h
      refine lv_aload_n hx hb dX8_on_21 rfl (lv_at hl 0 rfl) ?_
      refine lv_iconst (v := 1) hx hb dX8_on_22 (by decide) ?_
      obtain ⟨r23, gi_23, ga_23, hc23, h⟩ := bd3_e h
      refine wcV (As := [.int (1 : Int32)]) (rest := []) ⟨hx, hb, hml, hown, hts⟩ (c_X8_found l X gi gl ga vS vF sN sF (1 : Int32) hc23) ⟨w_227, w_229, w_0, w_52, w_230⟩ hd_X8_found rfl rfl ⟨(Nat.le_of_ble_eq_true rfl), (Nat.le_of_ble_eq_true rfl)⟩ ⟨Nat.zero_le _, Nat.zero_le _⟩ gPre_blind (va_recv hK hP (ci := 4) rfl cG_b0) (gPre_call hP hK hN hZ hS) hS (fun _ h => h) rfl rfl hl.1 (Nat.le_of_ble_eq_true rfl) dX8_on_23 (fun H locs hP _ hS => ?_)
      have hP : va_P X.1 vwCl (cG X gi_23 gl ga_23 vS vF sN sF) H := hP
      refine W.eq (g2 := F0 m 26 ls [.int r23]) rfl ?_
      cases h
      exact W.iret hx hb hr (fun t ht _ => ⟨rfl, by rw [ht]; exact hP, hS.F ht⟩) hS.2.2 dX8_on_26
  · replace h := if_t c4 h
    refine lv_iconst (v := -1) hx hb dX8_on_7 (by decide) ?_
    cases h
    exact W.iret hx hb hr (fun t ht _ => ⟨rfl, by rw [ht]; exact hP, hS.F ht⟩) hS.2.2 dX8_on_8
set_option maxRecDepth 100000 in
set_option maxHeartbeats 4000000 in
theorem c_X8_door (l : Launch) (X : gX) (gi : Nat → Int32) (gl : Nat → Int64) (ga : Nat → Nat → Int32) (vS : Nat → Nat → Int32) (vF : Nat → Nat → Nat → Int32) (sN : Nat → Int32) (sF : Nat → Nat → Int32) (a1 : Int32) {o0 : Int32} (h : X8_door vS vF a1 = some o0) : Met l yX8_door (Cond.code yX8_door cX8_door 2 (some .int) :: gT) { frames := 3, cells := 0, slots := 0, locals := 67 } (va_Pc [.ref (xA X 0), .int a1] (gPre X gi gl ga vS vF sN sF)) (k2_QcV (.int o0)) 0 0 (fun _ => False) := by
  refine Met.ofW (cc := cX8_door) (maxL := 2) (ret := (some .int)) (by decide) rfl ?_
  intro p e s m args below meth c s₁ B hml hv
  obtain ⟨rfl, hP, hK, hN, hZ⟩ := hv
  have hx := B.exec
  have hb := B.bytes
  have hr := B.returns
  have hts := atoms_spec (ws := (Cond.code yX8_door cX8_door 2 (some .int) :: gT)) B.pre
  have hT : ∀ w ∈ gT, w.before _ s = true := fun w hw => hts w (List.mem_cons_of_mem _ hw)
  have hown : s.vm.findClass RX8 = some m.cls := findClass_of_methodNamed B.named
  have hlocks := B.notSynchronized
  have hS : va_S (gA X) s.heap s.heap [] := va_S.rf
  have hl := lv_entry ([.ref (xA X 0), .int a1]) (n := 2) (Nat.le_of_ble_eq_true rfl)
  rw [lg_entry_eq]
  generalize (lg_sl ([.ref (xA X 0), .int a1]) ++ List.replicate (2 - (lg_sl ([.ref (xA X 0), .int a1])).length) Slot.unset).toArray = ls at hl ⊢
  have hl : lv_has ls 2 [(0, .ref (xA X 0)), (1, .int a1)] := hl
  rw [X8_door] at h
  refine lv_iload_n hx hb dX8_door_0 rfl (lv_at hl 1 rfl) ?_
  obtain ⟨r1, hc1, h⟩ := Option.bind_eq_some_iff.mp h
  refine rcS (As := [.int a1]) (rest := []) ⟨hx, hb, hml, hown, hts⟩ (c_X8_isWidth l a1 hc1) ⟨w_525, w_526, w_52, w_527⟩ hd_X8_isWidth rfl rfl ⟨(Nat.le_of_ble_eq_true rfl), (Nat.le_of_ble_eq_true rfl)⟩ ⟨Nat.zero_le _, Nat.zero_le _⟩ (fun _ _ _ _ h => h) (fun _ _ _ => trivial) rfl rfl hl.1 (Nat.le_of_ble_eq_true rfl) dX8_door_1 ?_
  refine lv_if_ne (tgt := 9) hx hb dX8_door_4 (by decide) (fun c4 => ?_) (fun c4 => ?_)
  · replace h := if_f c4 h
    refine lv_aload_n hx hb dX8_door_9 rfl (lv_at hl 0 rfl) ?_
    refine rg_G_village hx hb hT hown hK hP w_188 dX8_door_10 ?_
    refine lv_aload_n hx hb dX8_door_13 rfl (lv_at hl 0 rfl) ?_
    refine rg_G_village hx hb hT hown hK hP w_188 dX8_door_14 ?_
    obtain ⟨r17, hc17, h⟩ := Option.bind_eq_some_iff.mp h
    refine rcV (As := []) (rest := [.ref (xAV X (0) 0)]) ⟨hx, hb, hml, hown, hts⟩ (c_X7_stuckSet l X gi gl ga vS vF sN sF hc17) ⟨w_485, w_391, w_392, w_53, w_393⟩ hd_X7_stuckSet rfl rfl ⟨(Nat.le_of_ble_eq_true rfl), (Nat.le_of_ble_eq_true rfl)⟩ ⟨Nat.zero_le _, Nat.zero_le _⟩ gPre_blind (va_recv hK hP (ci := 3) rfl (cG_v (by decide : 0 < 4))) (gPre_call hP hK hN hZ hS) rfl rfl hl.1 (Nat.le_of_ble_eq_true rfl) dX8_door_17 ?_
    refine lv_iload_n hx hb dX8_door_20 rfl (lv_at hl 1 rfl) ?_
    obtain ⟨r21, hc21, h⟩ := Option.bind_eq_some_iff.mp h
    refine rcS (As := [.ref (xAV X (0) 0), .int r17, .int a1]) (rest := []) ⟨hx, hb, hml, hown, hts⟩ (c_X4_tooWide l X gi gl ga vS vF sN sF r17 a1 hc21) ⟨w_528, w_529, w_64, w_530⟩ hd_X4_tooWide rfl rfl ⟨(Nat.le_of_ble_eq_true rfl), (Nat.le_of_ble_eq_true rfl)⟩ ⟨Nat.zero_le _, Nat.zero_le _⟩ gPre_blind (gPre_call hP hK hN hZ hS) rfl rfl hl.1 (Nat.le_of_ble_eq_true rfl) dX8_door_21 ?_
    cases h
    exact W.iret hx hb hr (fun t ht _ => ⟨rfl, ht⟩) (fun _ hq => by cases hq) dX8_door_24
  · replace h := if_t c4 h
    refine lv_iconst (v := -1) hx hb dX8_door_7 (by decide) ?_
    cases h
    exact W.iret hx hb hr (fun t ht _ => ⟨rfl, ht⟩) (fun _ hq => by cases hq) dX8_door_8
set_option maxRecDepth 100000 in
set_option maxHeartbeats 4000000 in
theorem c_X8_stairs (l : Launch) (X : gX) (gi : Nat → Int32) (gl : Nat → Int64) (ga : Nat → Nat → Int32) (vS : Nat → Nat → Int32) (vF : Nat → Nat → Nat → Int32) (sN : Nat → Int32) (sF : Nat → Nat → Int32) (a1 : Int32) {o0 : Int32} (h : X8_stairs vS vF a1 = some o0) : Met l yX8_stairs (Cond.code yX8_stairs cX8_stairs 2 (some .int) :: gT) { frames := 4, cells := 0, slots := 0, locals := 90 } (va_Pc [.ref (xA X 0), .int a1] (gPre X gi gl ga vS vF sN sF)) (k2_QcV (.int o0)) 0 0 (fun _ => False) := by
  refine Met.ofW (cc := cX8_stairs) (maxL := 2) (ret := (some .int)) (by decide) rfl ?_
  intro p e s m args below meth c s₁ B hml hv
  obtain ⟨rfl, hP, hK, hN, hZ⟩ := hv
  have hx := B.exec
  have hb := B.bytes
  have hr := B.returns
  have hts := atoms_spec (ws := (Cond.code yX8_stairs cX8_stairs 2 (some .int) :: gT)) B.pre
  have hT : ∀ w ∈ gT, w.before _ s = true := fun w hw => hts w (List.mem_cons_of_mem _ hw)
  have hown : s.vm.findClass RX8 = some m.cls := findClass_of_methodNamed B.named
  have hlocks := B.notSynchronized
  have hS : va_S (gA X) s.heap s.heap [] := va_S.rf
  have hl := lv_entry ([.ref (xA X 0), .int a1]) (n := 2) (Nat.le_of_ble_eq_true rfl)
  rw [lg_entry_eq]
  generalize (lg_sl ([.ref (xA X 0), .int a1]) ++ List.replicate (2 - (lg_sl ([.ref (xA X 0), .int a1])).length) Slot.unset).toArray = ls at hl ⊢
  have hl : lv_has ls 2 [(0, .ref (xA X 0)), (1, .int a1)] := hl
  rw [X8_stairs] at h
  refine lv_iload_n hx hb dX8_stairs_0 rfl (lv_at hl 1 rfl) ?_
  obtain ⟨r1, hc1, h⟩ := Option.bind_eq_some_iff.mp h
  refine rcS (As := [.int a1]) (rest := []) ⟨hx, hb, hml, hown, hts⟩ (c_X8_isWidth l a1 hc1) ⟨w_525, w_526, w_52, w_527⟩ hd_X8_isWidth rfl rfl ⟨(Nat.le_of_ble_eq_true rfl), (Nat.le_of_ble_eq_true rfl)⟩ ⟨Nat.zero_le _, Nat.zero_le _⟩ (fun _ _ _ _ h => h) (fun _ _ _ => trivial) rfl rfl hl.1 (Nat.le_of_ble_eq_true rfl) dX8_stairs_1 ?_
  refine lv_if_ne (tgt := 9) hx hb dX8_stairs_4 (by decide) (fun c4 => ?_) (fun c4 => ?_)
  · replace h := if_f c4 h
    refine lv_aload_n hx hb dX8_stairs_9 rfl (lv_at hl 0 rfl) ?_
    refine rg_G_village hx hb hT hown hK hP w_188 dX8_stairs_10 ?_
    refine lv_aload_n hx hb dX8_stairs_13 rfl (lv_at hl 0 rfl) ?_
    refine rg_G_village hx hb hT hown hK hP w_188 dX8_stairs_14 ?_
    obtain ⟨r17, hc17, h⟩ := Option.bind_eq_some_iff.mp h
    refine rcV (As := []) (rest := [.ref (xAV X (0) 0)]) ⟨hx, hb, hml, hown, hts⟩ (c_X7_stuckSet l X gi gl ga vS vF sN sF hc17) ⟨w_485, w_391, w_392, w_53, w_393⟩ hd_X7_stuckSet rfl rfl ⟨(Nat.le_of_ble_eq_true rfl), (Nat.le_of_ble_eq_true rfl)⟩ ⟨Nat.zero_le _, Nat.zero_le _⟩ gPre_blind (va_recv hK hP (ci := 3) rfl (cG_v (by decide : 0 < 4))) (gPre_call hP hK hN hZ hS) rfl rfl hl.1 (Nat.le_of_ble_eq_true rfl) dX8_stairs_17 ?_
    refine lv_iload_n hx hb dX8_stairs_20 rfl (lv_at hl 1 rfl) ?_
    obtain ⟨r21, hc21, h⟩ := Option.bind_eq_some_iff.mp h
    refine rcS (As := [.ref (xAV X (0) 0), .int r17, .int a1]) (rest := []) ⟨hx, hb, hml, hown, hts⟩ (c_X4_tooDeep l X gi gl ga vS vF sN sF r17 a1 hc21) ⟨w_537, w_538, w_64, w_539⟩ hd_X4_tooDeep rfl rfl ⟨(Nat.le_of_ble_eq_true rfl), (Nat.le_of_ble_eq_true rfl)⟩ ⟨Nat.zero_le _, Nat.zero_le _⟩ gPre_blind (gPre_call hP hK hN hZ hS) rfl rfl hl.1 (Nat.le_of_ble_eq_true rfl) dX8_stairs_21 ?_
    cases h
    exact W.iret hx hb hr (fun t ht _ => ⟨rfl, ht⟩) (fun _ hq => by cases hq) dX8_stairs_24
  · replace h := if_t c4 h
    refine lv_iconst (v := -1) hx hb dX8_stairs_7 (by decide) ?_
    cases h
    exact W.iret hx hb hr (fun t ht _ => ⟨rfl, ht⟩) (fun _ hq => by cases hq) dX8_stairs_8
set_option maxRecDepth 100000 in
set_option maxHeartbeats 4000000 in
theorem c_X8_part (l : Launch) (X : gX) (gi : Nat → Int32) (gl : Nat → Int64) (ga : Nat → Nat → Int32) (vS : Nat → Nat → Int32) (vF : Nat → Nat → Nat → Int32) (sN : Nat → Int32) (sF : Nat → Nat → Int32) (a1 : Int32) (a2 : Int32) {o0 : Int32} {o_gi : Nat → Int32} (h : X8_part vS vF a1 a2 gi = some (o0, o_gi)) : Met l yX8_part (Cond.code yX8_part cX8_part 3 (some .int) :: gT) { frames := 6, cells := 0, slots := 0, locals := 139 } (va_Pc [.ref (xA X 0), .int a1, .int a2] (gPre X gi gl ga vS vF sN sF)) (wQ (some (.int o0)) (fun H => va_P X.1 vwCl (cG X o_gi gl ga vS vF sN sF) H) (gA X)) 0 0 (gA X) := by
  refine Met.ofW (cc := cX8_part) (maxL := 3) (ret := (some .int)) (by decide) rfl ?_
  intro p e s m args below meth c s₁ B hml hv
  obtain ⟨rfl, hP, hK, hN, hZ⟩ := hv
  have hx := B.exec
  have hb := B.bytes
  have hr := B.returns
  have hts := atoms_spec (ws := (Cond.code yX8_part cX8_part 3 (some .int) :: gT)) B.pre
  have hT : ∀ w ∈ gT, w.before _ s = true := fun w hw => hts w (List.mem_cons_of_mem _ hw)
  have hown : s.vm.findClass RX8 = some m.cls := findClass_of_methodNamed B.named
  have hlocks := B.notSynchronized
  have hS : va_S (gA X) s.heap s.heap [] := va_S.rf
  have hl := lv_entry ([.ref (xA X 0), .int a1, .int a2]) (n := 3) (Nat.le_of_ble_eq_true rfl)
  rw [lg_entry_eq]
  generalize (lg_sl ([.ref (xA X 0), .int a1, .int a2]) ++ List.replicate (3 - (lg_sl ([.ref (xA X 0), .int a1, .int a2])).length) Slot.unset).toArray = ls at hl ⊢
  have hl : lv_has ls 3 [(0, .ref (xA X 0)), (1, .int a1), (2, .int a2)] := hl
  rw [X8_part] at h
  refine lv_iload_n hx hb dX8_part_0 rfl (lv_at hl 1 rfl) ?_
  obtain ⟨r1, hc1, h⟩ := Option.bind_eq_some_iff.mp h
  refine rcS (As := [.int a1]) (rest := []) ⟨hx, hb, hml, hown, hts⟩ (c_X8_isWidth l a1 hc1) ⟨w_525, w_526, w_52, w_527⟩ hd_X8_isWidth rfl rfl ⟨(Nat.le_of_ble_eq_true rfl), (Nat.le_of_ble_eq_true rfl)⟩ ⟨Nat.zero_le _, Nat.zero_le _⟩ (fun _ _ _ _ h => h) (fun _ _ _ => trivial) rfl rfl hl.1 (Nat.le_of_ble_eq_true rfl) dX8_part_1 ?_
  refine lv_if_eq (tgt := 14) hx hb dX8_part_4 (by decide) (fun c4 => ?_) (fun c4 => ?_)
  · replace h := if_t c4 h
    refine lv_iconst (v := -1) hx hb dX8_part_14 (by decide) ?_
    cases h
    exact W.iret hx hb hr (fun t ht _ => ⟨rfl, by rw [ht]; exact hP, hS.F ht⟩) hS.2.2 dX8_part_15
  · replace h := if_f c4 h
    refine lv_iload_n hx hb dX8_part_7 rfl (lv_at hl 2 rfl) ?_
    obtain ⟨r8, hc8, h⟩ := Option.bind_eq_some_iff.mp h
    refine rcS (As := [.int a2]) (rest := []) ⟨hx, hb, hml, hown, hts⟩ (c_X8_isWidth l a2 hc8) ⟨w_525, w_526, w_52, w_527⟩ hd_X8_isWidth rfl rfl ⟨(Nat.le_of_ble_eq_true rfl), (Nat.le_of_ble_eq_true rfl)⟩ ⟨Nat.zero_le _, Nat.zero_le _⟩ (fun _ _ _ _ h => h) (fun _ _ _ => trivial) rfl rfl hl.1 (Nat.le_of_ble_eq_true rfl) dX8_part_8 ?_
    refine lv_if_ne (tgt := 16) hx hb dX8_part_11 (by decide) (fun c11 => ?_) (fun c11 => ?_)
    · replace h := if_f c11 h
      refine lv_aload_n hx hb dX8_part_16 rfl (lv_at hl 0 rfl) ?_
      refine lv_aload_n hx hb dX8_part_17 rfl (lv_at hl 0 rfl) ?_
      refine rg_G_village hx hb hT hown hK hP w_188 dX8_part_18 ?_
      refine lv_iload_n hx hb dX8_part_21 rfl (lv_at hl 1 rfl) ?_
      refine lv_iload_n hx hb dX8_part_22 rfl (lv_at hl 2 rfl) ?_
      obtain ⟨r23, hc23, h⟩ := Option.bind_eq_some_iff.mp h
      refine rcS (As := [.ref (xAV X (0) 0), .int a1, .int a2]) (rest := [.ref (xA X 0)]) ⟨hx, hb, hml, hown, hts⟩ (c_X4_cuts l X gi gl ga vS vF sN sF a1 a2 hc23) ⟨w_545, w_546, w_64, w_547⟩ hd_X4_cuts rfl rfl ⟨(Nat.le_of_ble_eq_true rfl), (Nat.le_of_ble_eq_true rfl)⟩ ⟨Nat.zero_le _, Nat.zero_le _⟩ gPre_blind (gPre_call hP hK hN hZ hS) rfl rfl hl.1 (Nat.le_of_ble_eq_true rfl) dX8_part_23 ?_
      refine rp_G_told hx hb hT hown hK hP hN hS w_194 dX8_part_26 (fun H locs hP hS => ?_)
      generalize egi_26 : va_up gi 1 r23 = gi_26 at hP
      replace h := lt_g h egi_26
      refine lv_aload_n hx hb dX8_part_29 rfl (lv_at hl 0 rfl) ?_
      refine rg_G_told hx hb hT hown hK hP w_194 dX8_part_30 ?_
      obtain ⟨r33, hc33, h⟩ := Option.bind_eq_some_iff.mp h
      refine rcS (As := [.int (gi_26 1)]) (rest := []) ⟨hx, hb, hml, hown, hts⟩ (c_J6_bitCount_0f7a4 l (gi_26 1) hc33) ⟨w_416, w_357, w_63, w_358⟩ hd_J6_bitCount_0f7a4 rfl rfl ⟨(Nat.le_of_ble_eq_true rfl), (Nat.le_of_ble_eq_true rfl)⟩ ⟨Nat.zero_le _, Nat.zero_le _⟩ (fun _ _ _ _ h => h) (fun _ _ _ => trivial) rfl rfl hl.1 (Nat.le_of_ble_eq_true rfl) dX8_part_33 ?_
      cases h
      exact W.iret hx hb hr (fun t ht _ => ⟨rfl, by rw [ht]; exact hP, hS.F ht⟩) hS.2.2 dX8_part_36
    · replace h := if_t c11 h
      refine lv_iconst (v := -1) hx hb dX8_part_14 (by decide) ?_
      cases h
      exact W.iret hx hb hr (fun t ht _ => ⟨rfl, by rw [ht]; exact hP, hS.F ht⟩) hS.2.2 dX8_part_15
set_option maxRecDepth 100000 in
set_option maxHeartbeats 4000000 in
theorem c_X8_room (l : Launch) (X : gX) (gi : Nat → Int32) (gl : Nat → Int64) (ga : Nat → Nat → Int32) (vS : Nat → Nat → Int32) (vF : Nat → Nat → Nat → Int32) (sN : Nat → Int32) (sF : Nat → Nat → Int32) (a1 : Int32) (a2 : Int32) {o0 : Int32} (h : X8_room vS vF a1 a2 = some o0) : Met l yX8_room (Cond.code yX8_room cX8_room 3 (some .int) :: gT) { frames := 6, cells := 0, slots := 0, locals := 137 } (va_Pc [.ref (xA X 0), .int a1, .int a2] (gPre X gi gl ga vS vF sN sF)) (k2_QcV (.int o0)) 0 0 (fun _ => False) := by
  refine Met.ofW (cc := cX8_room) (maxL := 3) (ret := (some .int)) (by decide) rfl ?_
  intro p e s m args below meth c s₁ B hml hv
  obtain ⟨rfl, hP, hK, hN, hZ⟩ := hv
  have hx := B.exec
  have hb := B.bytes
  have hr := B.returns
  have hts := atoms_spec (ws := (Cond.code yX8_room cX8_room 3 (some .int) :: gT)) B.pre
  have hT : ∀ w ∈ gT, w.before _ s = true := fun w hw => hts w (List.mem_cons_of_mem _ hw)
  have hown : s.vm.findClass RX8 = some m.cls := findClass_of_methodNamed B.named
  have hlocks := B.notSynchronized
  have hS : va_S (gA X) s.heap s.heap [] := va_S.rf
  have hl := lv_entry ([.ref (xA X 0), .int a1, .int a2]) (n := 3) (Nat.le_of_ble_eq_true rfl)
  rw [lg_entry_eq]
  generalize (lg_sl ([.ref (xA X 0), .int a1, .int a2]) ++ List.replicate (3 - (lg_sl ([.ref (xA X 0), .int a1, .int a2])).length) Slot.unset).toArray = ls at hl ⊢
  have hl : lv_has ls 3 [(0, .ref (xA X 0)), (1, .int a1), (2, .int a2)] := hl
  rw [X8_room] at h
  refine lv_iload_n hx hb dX8_room_0 rfl (lv_at hl 1 rfl) ?_
  obtain ⟨r1, hc1, h⟩ := Option.bind_eq_some_iff.mp h
  refine rcS (As := [.int a1]) (rest := []) ⟨hx, hb, hml, hown, hts⟩ (c_X8_isWidth l a1 hc1) ⟨w_525, w_526, w_52, w_527⟩ hd_X8_isWidth rfl rfl ⟨(Nat.le_of_ble_eq_true rfl), (Nat.le_of_ble_eq_true rfl)⟩ ⟨Nat.zero_le _, Nat.zero_le _⟩ (fun _ _ _ _ h => h) (fun _ _ _ => trivial) rfl rfl hl.1 (Nat.le_of_ble_eq_true rfl) dX8_room_1 ?_
  refine lv_if_eq (tgt := 14) hx hb dX8_room_4 (by decide) (fun c4 => ?_) (fun c4 => ?_)
  · replace h := if_t c4 h
    refine lv_iconst (v := -1) hx hb dX8_room_14 (by decide) ?_
    cases h
    exact W.iret hx hb hr (fun t ht _ => ⟨rfl, ht⟩) (fun _ hq => by cases hq) dX8_room_15
  · replace h := if_f c4 h
    refine lv_iload_n hx hb dX8_room_7 rfl (lv_at hl 2 rfl) ?_
    obtain ⟨r8, hc8, h⟩ := Option.bind_eq_some_iff.mp h
    refine rcS (As := [.int a2]) (rest := []) ⟨hx, hb, hml, hown, hts⟩ (c_X8_isWidth l a2 hc8) ⟨w_525, w_526, w_52, w_527⟩ hd_X8_isWidth rfl rfl ⟨(Nat.le_of_ble_eq_true rfl), (Nat.le_of_ble_eq_true rfl)⟩ ⟨Nat.zero_le _, Nat.zero_le _⟩ (fun _ _ _ _ h => h) (fun _ _ _ => trivial) rfl rfl hl.1 (Nat.le_of_ble_eq_true rfl) dX8_room_8 ?_
    refine lv_if_ne (tgt := 16) hx hb dX8_room_11 (by decide) (fun c11 => ?_) (fun c11 => ?_)
    · replace h := if_f c11 h
      refine lv_aload_n hx hb dX8_room_16 rfl (lv_at hl 0 rfl) ?_
      refine rg_G_village hx hb hT hown hK hP w_188 dX8_room_17 ?_
      refine lv_iload_n hx hb dX8_room_20 rfl (lv_at hl 1 rfl) ?_
      refine lv_iload_n hx hb dX8_room_21 rfl (lv_at hl 2 rfl) ?_
      obtain ⟨r22, hc22, h⟩ := Option.bind_eq_some_iff.mp h
      refine rcS (As := [.ref (xAV X (0) 0), .int a1, .int a2]) (rest := []) ⟨hx, hb, hml, hown, hts⟩ (c_X4_places l X gi gl ga vS vF sN sF a1 a2 hc22) ⟨w_563, w_564, w_64, w_565⟩ hd_X4_places rfl rfl ⟨(Nat.le_of_ble_eq_true rfl), (Nat.le_of_ble_eq_true rfl)⟩ ⟨Nat.zero_le _, Nat.zero_le _⟩ gPre_blind (gPre_call hP hK hN hZ hS) rfl rfl hl.1 (Nat.le_of_ble_eq_true rfl) dX8_room_22 ?_
      cases h
      exact W.iret hx hb hr (fun t ht _ => ⟨rfl, ht⟩) (fun _ hq => by cases hq) dX8_room_25
    · replace h := if_t c11 h
      refine lv_iconst (v := -1) hx hb dX8_room_14 (by decide) ?_
      cases h
      exact W.iret hx hb hr (fun t ht _ => ⟨rfl, ht⟩) (fun _ hq => by cases hq) dX8_room_15
set_option maxRecDepth 100000 in
set_option maxHeartbeats 4000000 in
theorem c_X8_place (l : Launch) (X : gX) (gi : Nat → Int32) (gl : Nat → Int64) (ga : Nat → Nat → Int32) (vS : Nat → Nat → Int32) (vF : Nat → Nat → Nat → Int32) (sN : Nat → Int32) (sF : Nat → Nat → Int32) (a1 : Int32) (a2 : Int32) {o0 : Int32} (h : X8_place vS vF a1 a2 = some o0) : Met l yX8_place (Cond.code yX8_place cX8_place 4 (some .int) :: gT) { frames := 4, cells := 0, slots := 0, locals := 83 } (va_Pc [.ref (xA X 0), .int a1, .int a2] (gPre X gi gl ga vS vF sN sF)) (k2_QcV (.int o0)) 0 0 (fun _ => False) := by
  refine Met.ofW (cc := cX8_place) (maxL := 4) (ret := (some .int)) (by decide) rfl ?_
  intro p e s m args below meth c s₁ B hml hv
  obtain ⟨rfl, hP, hK, hN, hZ⟩ := hv
  have hx := B.exec
  have hb := B.bytes
  have hr := B.returns
  have hts := atoms_spec (ws := (Cond.code yX8_place cX8_place 4 (some .int) :: gT)) B.pre
  have hT : ∀ w ∈ gT, w.before _ s = true := fun w hw => hts w (List.mem_cons_of_mem _ hw)
  have hown : s.vm.findClass RX8 = some m.cls := findClass_of_methodNamed B.named
  have hlocks := B.notSynchronized
  have hS : va_S (gA X) s.heap s.heap [] := va_S.rf
  have hl := lv_entry ([.ref (xA X 0), .int a1, .int a2]) (n := 4) (Nat.le_of_ble_eq_true rfl)
  rw [lg_entry_eq]
  generalize (lg_sl ([.ref (xA X 0), .int a1, .int a2]) ++ List.replicate (4 - (lg_sl ([.ref (xA X 0), .int a1, .int a2])).length) Slot.unset).toArray = ls at hl ⊢
  have hl : lv_has ls 4 [(0, .ref (xA X 0)), (1, .int a1), (2, .int a2)] := hl
  rw [X8_place] at h
  refine lv_aload_n hx hb dX8_place_0 rfl (lv_at hl 0 rfl) ?_
  refine rg_G_village hx hb hT hown hK hP w_188 dX8_place_1 ?_
  refine lv_iload_n hx hb dX8_place_4 rfl (lv_at hl 1 rfl) ?_
  obtain ⟨r5, hc5, h⟩ := Option.bind_eq_some_iff.mp h
  refine rcV (As := [.int a1]) (rest := []) ⟨hx, hb, hml, hown, hts⟩ (c_X7_isPerson l X gi gl ga vS vF sN sF a1 hc5) ⟨w_328, w_329, w_330, w_53, w_331⟩ hd_X7_isPerson rfl rfl ⟨(Nat.le_of_ble_eq_true rfl), (Nat.le_of_ble_eq_true rfl)⟩ ⟨Nat.zero_le _, Nat.zero_le _⟩ gPre_blind (va_recv hK hP (ci := 3) rfl (cG_v (by decide : 0 < 4))) (gPre_call hP hK hN hZ hS) rfl rfl hl.1 (Nat.le_of_ble_eq_true rfl) dX8_place_5 ?_
  refine lv_if_eq (tgt := 22) hx hb dX8_place_8 (by decide) (fun c8 => ?_) (fun c8 => ?_)
  · replace h := if_t c8 h
    refine lv_iconst (v := -1) hx hb dX8_place_22 (by decide) ?_
    cases h
    exact W.iret hx hb hr (fun t ht _ => ⟨rfl, ht⟩) (fun _ hq => by cases hq) dX8_place_23
  · replace h := if_f c8 h
    refine lv_iload_n hx hb dX8_place_11 rfl (lv_at hl 2 rfl) ?_
    refine lv_iconst (v := 1) hx hb dX8_place_12 (by decide) ?_
    refine lv_icmp_lt (tgt := 22) hx hb dX8_place_13 (by decide) (fun c13 => ?_) (fun c13 => ?_)
    · replace h := if_t c13 h
      refine lv_iconst (v := -1) hx hb dX8_place_22 (by decide) ?_
      cases h
      exact W.iret hx hb hr (fun t ht _ => ⟨rfl, ht⟩) (fun _ hq => by cases hq) dX8_place_23
    · replace h := if_f c13 h
      refine lv_iload_n hx hb dX8_place_16 rfl (lv_at hl 2 rfl) ?_
      refine lv_bipush (v := 7) hx hb dX8_place_17 (by decide) ?_
      refine lv_icmp_le (tgt := 24) hx hb dX8_place_19 (by decide) (fun c19 => ?_) (fun c19 => ?_)
      · replace h := if_t c19 h
        refine lv_aload_n hx hb dX8_place_24 rfl (lv_at hl 0 rfl) ?_
        refine rg_G_village hx hb hT hown hK hP w_188 dX8_place_25 ?_
        refine lv_iload_n hx hb dX8_place_28 rfl (lv_at hl 1 rfl) ?_
        obtain ⟨r29, hc29, h⟩ := Option.bind_eq_some_iff.mp h
        refine rcV (As := [.int a1]) (rest := []) ⟨hx, hb, hml, hown, hts⟩ (c_X7_isStuck l X gi gl ga vS vF sN sF a1 hc29) ⟨w_375, w_353, w_354, w_53, w_355⟩ hd_X7_isStuck rfl rfl ⟨(Nat.le_of_ble_eq_true rfl), (Nat.le_of_ble_eq_true rfl)⟩ ⟨Nat.zero_le _, Nat.zero_le _⟩ gPre_blind (va_recv hK hP (ci := 3) rfl (cG_v (by decide : 0 < 4))) (gPre_call hP hK hN hZ hS) rfl rfl hl.1 (Nat.le_of_ble_eq_true rfl) dX8_place_29 ?_
        refine lv_if_eq (tgt := 38) hx hb dX8_place_32 (by decide) (fun c32 => ?_) (fun c32 => ?_)
        · replace h := if_t c32 h
          refine lv_iconst (v := 0) hx hb dX8_place_38 (by decide) ?_
          refine lv_iload_n hx hb dX8_place_39 rfl (lv_at hl 2 rfl) ?_
          refine lv_iconst (v := 1) hx hb dX8_place_40 (by decide) ?_
          refine lv_isub hx hb dX8_place_41 ?_
          refine lv_aload_n hx hb dX8_place_42 rfl (lv_at hl 0 rfl) ?_
          refine rg_G_village hx hb hT hown hK hP w_188 dX8_place_43 ?_
          obtain ⟨r46, hc46, h⟩ := Option.bind_eq_some_iff.mp h
          refine rcV (As := []) (rest := [.int (a2 - (1 : Int32)), .int (0 : Int32)]) ⟨hx, hb, hml, hown, hts⟩ (c_X7_deepest l X gi gl ga vS vF sN sF hc46) ⟨w_403, w_382, w_383, w_53, w_384⟩ hd_X7_deepest rfl rfl ⟨(Nat.le_of_ble_eq_true rfl), (Nat.le_of_ble_eq_true rfl)⟩ ⟨Nat.zero_le _, Nat.zero_le _⟩ gPre_blind (va_recv hK hP (ci := 3) rfl (cG_v (by decide : 0 < 4))) (gPre_call hP hK hN hZ hS) rfl rfl hl.1 (Nat.le_of_ble_eq_true rfl) dX8_place_46 ?_
          refine lv_isub hx hb dX8_place_49 ?_
          refine va_mmax hx hb (hml.trans hl.1.symm) hown (hT _ w_394) (hT _ w_172) (hT _ w_57) (hT _ w_173) (Nat.le_of_ble_eq_true rfl) (Nat.le_of_ble_eq_true rfl) (Nat.zero_le _) (Nat.zero_le _) dX8_place_50 ?_
          refine lv_topi (fun v3_53 ev3_53 => ?_)
          replace h := lt_e h ev3_53
          refine lv_istore_n (lv' := [(3, .int v3_53), (0, .ref (xA X 0)), (1, .int a1), (2, .int a2)]) hx hb dX8_place_53 rfl hl (by decide) rfl (fun ls hl => ?_)
          refine lv_iload_n hx hb dX8_place_54 rfl (lv_at hl 0 rfl) ?_
          refine lv_aload_n hx hb dX8_place_55 rfl (lv_at hl 1 rfl) ?_
          refine rg_G_village hx hb hT hown hK hP w_188 dX8_place_56 ?_
          obtain ⟨r59, hc59, h⟩ := Option.bind_eq_some_iff.mp h
          refine rcV (As := []) (rest := [.int v3_53]) ⟨hx, hb, hml, hown, hts⟩ (c_X7_freeOthers l X gi gl ga vS vF sN sF hc59) ⟨w_573, w_574, w_575, w_53, w_576⟩ hd_X7_freeOthers rfl rfl ⟨(Nat.le_of_ble_eq_true rfl), (Nat.le_of_ble_eq_true rfl)⟩ ⟨Nat.zero_le _, Nat.zero_le _⟩ gPre_blind (va_recv hK hP (ci := 3) rfl (cG_v (by decide : 0 < 4))) (gPre_call hP hK hN hZ hS) rfl rfl hl.1 (Nat.le_of_ble_eq_true rfl) dX8_place_59 ?_
          refine lv_icmp_gt (tgt := 71) hx hb dX8_place_62 (by decide) (fun c62 => ?_) (fun c62 => ?_)
          · replace h := if_t c62 h
            refine lv_bipush (v := -9) hx hb dX8_place_71 (by decide) ?_
            cases h
            exact W.iret hx hb hr (fun t ht _ => ⟨rfl, ht⟩) (fun _ hq => by cases hq) dX8_place_73
          · replace h := if_f c62 h
            refine lv_iload_n hx hb dX8_place_65 rfl (lv_at hl 0 rfl) ?_
            refine lv_iconst (v := 1) hx hb dX8_place_66 (by decide) ?_
            refine lv_iadd hx hb dX8_place_67 ?_
            refine lv_goto (tgt := 73) hx hb dX8_place_68 (by decide) ?_
            cases h
            exact W.iret hx hb hr (fun t ht _ => ⟨rfl, ht⟩) (fun _ hq => by cases hq) dX8_place_73
        · replace h := if_f c32 h
          refine lv_bipush (v := -9) hx hb dX8_place_35 (by decide) ?_
          cases h
          exact W.iret hx hb hr (fun t ht _ => ⟨rfl, ht⟩) (fun _ hq => by cases hq) dX8_place_37
      · replace h := if_f c19 h
        refine lv_iconst (v := -1) hx hb dX8_place_22 (by decide) ?_
        cases h
        exact W.iret hx hb hr (fun t ht _ => ⟨rfl, ht⟩) (fun _ hq => by cases hq) dX8_place_23
set_option maxRecDepth 100000 in
set_option maxHeartbeats 4000000 in
theorem c_X8_fun (l : Launch) (X : gX) (gi : Nat → Int32) (gl : Nat → Int64) (ga : Nat → Nat → Int32) (vS : Nat → Nat → Int32) (vF : Nat → Nat → Nat → Int32) (sN : Nat → Int32) (sF : Nat → Nat → Int32) (a1 : Int32) {o0 : Int32} (h : X8_fun vS vF a1 = some o0) : Met l yX8_fun (Cond.code yX8_fun cX8_fun 3 (some .int) :: gT) { frames := 4, cells := 0, slots := 0, locals := 88 } (va_Pc [.ref (xA X 0), .int a1] (gPre X gi gl ga vS vF sN sF)) (k2_QcV (.int o0)) 0 0 (fun _ => False) := by
  refine Met.ofW (cc := cX8_fun) (maxL := 3) (ret := (some .int)) (by decide) rfl ?_
  intro p e s m args below meth c s₁ B hml hv
  obtain ⟨rfl, hP, hK, hN, hZ⟩ := hv
  have hx := B.exec
  have hb := B.bytes
  have hr := B.returns
  have hts := atoms_spec (ws := (Cond.code yX8_fun cX8_fun 3 (some .int) :: gT)) B.pre
  have hT : ∀ w ∈ gT, w.before _ s = true := fun w hw => hts w (List.mem_cons_of_mem _ hw)
  have hown : s.vm.findClass RX8 = some m.cls := findClass_of_methodNamed B.named
  have hlocks := B.notSynchronized
  have hS : va_S (gA X) s.heap s.heap [] := va_S.rf
  have hl := lv_entry ([.ref (xA X 0), .int a1]) (n := 3) (Nat.le_of_ble_eq_true rfl)
  rw [lg_entry_eq]
  generalize (lg_sl ([.ref (xA X 0), .int a1]) ++ List.replicate (3 - (lg_sl ([.ref (xA X 0), .int a1])).length) Slot.unset).toArray = ls at hl ⊢
  have hl : lv_has ls 3 [(0, .ref (xA X 0)), (1, .int a1)] := hl
  rw [X8_fun] at h
  refine lv_aload_n hx hb dX8_fun_0 rfl (lv_at hl 0 rfl) ?_
  refine rg_G_village hx hb hT hown hK hP w_188 dX8_fun_1 ?_
  refine lv_iload_n hx hb dX8_fun_4 rfl (lv_at hl 1 rfl) ?_
  obtain ⟨r5, hc5, h⟩ := Option.bind_eq_some_iff.mp h
  refine rcV (As := [.int a1]) (rest := []) ⟨hx, hb, hml, hown, hts⟩ (c_X7_isPerson l X gi gl ga vS vF sN sF a1 hc5) ⟨w_328, w_329, w_330, w_53, w_331⟩ hd_X7_isPerson rfl rfl ⟨(Nat.le_of_ble_eq_true rfl), (Nat.le_of_ble_eq_true rfl)⟩ ⟨Nat.zero_le _, Nat.zero_le _⟩ gPre_blind (va_recv hK hP (ci := 3) rfl (cG_v (by decide : 0 < 4))) (gPre_call hP hK hN hZ hS) rfl rfl hl.1 (Nat.le_of_ble_eq_true rfl) dX8_fun_5 ?_
  refine lv_if_ne (tgt := 13) hx hb dX8_fun_8 (by decide) (fun c8 => ?_) (fun c8 => ?_)
  · replace h := if_f c8 h
    refine lv_aload_n hx hb dX8_fun_13 rfl (lv_at hl 0 rfl) ?_
    refine rg_G_village hx hb hT hown hK hP w_188 dX8_fun_14 ?_
    refine lv_iload_n hx hb dX8_fun_17 rfl (lv_at hl 1 rfl) ?_
    obtain ⟨r18, hc18, h⟩ := Option.bind_eq_some_iff.mp h
    refine rcV (As := [.int a1]) (rest := []) ⟨hx, hb, hml, hown, hts⟩ (c_X7_isStuck l X gi gl ga vS vF sN sF a1 hc18) ⟨w_375, w_353, w_354, w_53, w_355⟩ hd_X7_isStuck rfl rfl ⟨(Nat.le_of_ble_eq_true rfl), (Nat.le_of_ble_eq_true rfl)⟩ ⟨Nat.zero_le _, Nat.zero_le _⟩ gPre_blind (va_recv hK hP (ci := 3) rfl (cG_v (by decide : 0 < 4))) (gPre_call hP hK hN hZ hS) rfl rfl hl.1 (Nat.le_of_ble_eq_true rfl) dX8_fun_18 ?_
    refine lv_if_eq (tgt := 27) hx hb dX8_fun_21 (by decide) (fun c21 => ?_) (fun c21 => ?_)
    · replace h := if_t c21 h
      refine lv_aload_n hx hb dX8_fun_27 rfl (lv_at hl 0 rfl) ?_
      refine rg_G_village hx hb hT hown hK hP w_188 dX8_fun_28 ?_
      refine lv_iload_n hx hb dX8_fun_31 rfl (lv_at hl 1 rfl) ?_
      obtain ⟨r32, hc32, h⟩ := Option.bind_eq_some_iff.mp h
      refine rcV (As := [.int a1]) (rest := []) ⟨hx, hb, hml, hown, hts⟩ (c_X7_isReady l X gi gl ga vS vF sN sF a1 hc32) ⟨w_581, w_458, w_459, w_53, w_460⟩ hd_X7_isReady rfl rfl ⟨(Nat.le_of_ble_eq_true rfl), (Nat.le_of_ble_eq_true rfl)⟩ ⟨Nat.zero_le _, Nat.zero_le _⟩ gPre_blind (va_recv hK hP (ci := 3) rfl (cG_v (by decide : 0 < 4))) (gPre_call hP hK hN hZ hS) rfl rfl hl.1 (Nat.le_of_ble_eq_true rfl) dX8_fun_32 ?_
      refine lv_if_ne (tgt := 41) hx hb dX8_fun_35 (by decide) (fun c35 => ?_) (fun c35 => ?_)
      · replace h := if_f c35 h
        refine lv_iconst (v := 0) hx hb dX8_fun_41 (by decide) ?_
        refine lv_aload_n hx hb dX8_fun_42 rfl (lv_at hl 0 rfl) ?_
        refine rg_G_village hx hb hT hown hK hP w_188 dX8_fun_43 ?_
        refine lv_iload_n hx hb dX8_fun_46 rfl (lv_at hl 1 rfl) ?_
        obtain ⟨r47, hc47, h⟩ := Option.bind_eq_some_iff.mp h
        refine rcV (As := [.int a1]) (rest := [.int (0 : Int32)]) ⟨hx, hb, hml, hown, hts⟩ (c_X7_sightDue l X gi gl ga vS vF sN sF a1 hc47) ⟨w_582, w_464, w_465, w_53, w_466⟩ hd_X7_sightDue rfl rfl ⟨(Nat.le_of_ble_eq_true rfl), (Nat.le_of_ble_eq_true rfl)⟩ ⟨Nat.zero_le _, Nat.zero_le _⟩ gPre_blind (va_recv hK hP (ci := 3) rfl (cG_v (by decide : 0 < 4))) (gPre_call hP hK hN hZ hS) rfl rfl hl.1 (Nat.le_of_ble_eq_true rfl) dX8_fun_47 ?_
        refine lv_aload_n hx hb dX8_fun_50 rfl (lv_at hl 0 rfl) ?_
        refine rg_G_village hx hb hT hown hK hP w_188 dX8_fun_51 ?_
        refine lv_iload_n hx hb dX8_fun_54 rfl (lv_at hl 1 rfl) ?_
        obtain ⟨r55, hc55, h⟩ := Option.bind_eq_some_iff.mp h
        refine rcV (As := [.int a1]) (rest := [.int r47, .int (0 : Int32)]) ⟨hx, hb, hml, hown, hts⟩ (c_X7_sight l X gi gl ga vS vF sN sF a1 hc55) ⟨w_376, w_377, w_378, w_53, w_379⟩ hd_X7_sight rfl rfl ⟨(Nat.le_of_ble_eq_true rfl), (Nat.le_of_ble_eq_true rfl)⟩ ⟨Nat.zero_le _, Nat.zero_le _⟩ gPre_blind (va_recv hK hP (ci := 3) rfl (cG_v (by decide : 0 < 4))) (gPre_call hP hK hN hZ hS) rfl rfl hl.1 (Nat.le_of_ble_eq_true rfl) dX8_fun_55 ?_
        refine lv_isub hx hb dX8_fun_58 ?_
        refine va_mmax hx hb (hml.trans hl.1.symm) hown (hT _ w_394) (hT _ w_172) (hT _ w_57) (hT _ w_173) (Nat.le_of_ble_eq_true rfl) (Nat.le_of_ble_eq_true rfl) (Nat.zero_le _) (Nat.zero_le _) dX8_fun_59 ?_
        refine lv_topi (fun v2_62 ev2_62 => ?_)
        replace h := lt_e h ev2_62
        refine lv_istore_n (lv' := [(2, .int v2_62), (0, .ref (xA X 0)), (1, .int a1)]) hx hb dX8_fun_62 rfl hl (by decide) rfl (fun ls hl => ?_)
        refine lv_iload_n hx hb dX8_fun_63 rfl (lv_at hl 0 rfl) ?_
        refine lv_aload_n hx hb dX8_fun_64 rfl (lv_at hl 1 rfl) ?_
        refine rg_G_village hx hb hT hown hK hP w_188 dX8_fun_65 ?_
        obtain ⟨r68, hc68, h⟩ := Option.bind_eq_some_iff.mp h
        refine rcV (As := []) (rest := [.int v2_62]) ⟨hx, hb, hml, hown, hts⟩ (c_X7_freeOthers l X gi gl ga vS vF sN sF hc68) ⟨w_573, w_574, w_575, w_53, w_576⟩ hd_X7_freeOthers rfl rfl ⟨(Nat.le_of_ble_eq_true rfl), (Nat.le_of_ble_eq_true rfl)⟩ ⟨Nat.zero_le _, Nat.zero_le _⟩ gPre_blind (va_recv hK hP (ci := 3) rfl (cG_v (by decide : 0 < 4))) (gPre_call hP hK hN hZ hS) rfl rfl hl.1 (Nat.le_of_ble_eq_true rfl) dX8_fun_68 ?_
        refine lv_icmp_gt (tgt := 78) hx hb dX8_fun_71 (by decide) (fun c71 => ?_) (fun c71 => ?_)
        · replace h := if_t c71 h
          refine lv_bipush (v := -9) hx hb dX8_fun_78 (by decide) ?_
          cases h
          exact W.iret hx hb hr (fun t ht _ => ⟨rfl, ht⟩) (fun _ hq => by cases hq) dX8_fun_80
        · replace h := if_f c71 h
          refine lv_iload_n hx hb dX8_fun_74 rfl (lv_at hl 0 rfl) ?_
          refine lv_goto (tgt := 80) hx hb dX8_fun_75 (by decide) ?_
          cases h
          exact W.iret hx hb hr (fun t ht _ => ⟨rfl, ht⟩) (fun _ hq => by cases hq) dX8_fun_80
      · replace h := if_t c35 h
        refine lv_bipush (v := -9) hx hb dX8_fun_38 (by decide) ?_
        cases h
        exact W.iret hx hb hr (fun t ht _ => ⟨rfl, ht⟩) (fun _ hq => by cases hq) dX8_fun_40
    · replace h := if_f c21 h
      refine lv_bipush (v := -4) hx hb dX8_fun_24 (by decide) ?_
      cases h
      exact W.iret hx hb hr (fun t ht _ => ⟨rfl, ht⟩) (fun _ hq => by cases hq) dX8_fun_26
  · replace h := if_t c8 h
    refine lv_iconst (v := -1) hx hb dX8_fun_11 (by decide) ?_
    cases h
    exact W.iret hx hb hr (fun t ht _ => ⟨rfl, ht⟩) (fun _ hq => by cases hq) dX8_fun_12
set_option maxRecDepth 100000 in
set_option maxHeartbeats 4000000 in
theorem c_X8_jester (l : Launch) (X : gX) (gi : Nat → Int32) (gl : Nat → Int64) (ga : Nat → Nat → Int32) (vS : Nat → Nat → Int32) (vF : Nat → Nat → Nat → Int32) (sN : Nat → Int32) (sF : Nat → Nat → Int32) {o0 : Int32} {o_gi : Nat → Int32} (h : X8_jester vS vF gi = some (o0, o_gi)) : Met l yX8_jester (Cond.code yX8_jester cX8_jester 2 (some .int) :: gT) { frames := 5, cells := 0, slots := 0, locals := 110 } (va_Pc [.ref (xA X 0)] (gPre X gi gl ga vS vF sN sF)) (wQ (some (.int o0)) (fun H => va_P X.1 vwCl (cG X o_gi gl ga vS vF sN sF) H) (gA X)) 0 0 (gA X) := by
  refine Met.ofW (cc := cX8_jester) (maxL := 2) (ret := (some .int)) (by decide) rfl ?_
  intro p e s m args below meth c s₁ B hml hv
  obtain ⟨rfl, hP, hK, hN, hZ⟩ := hv
  have hx := B.exec
  have hb := B.bytes
  have hr := B.returns
  have hts := atoms_spec (ws := (Cond.code yX8_jester cX8_jester 2 (some .int) :: gT)) B.pre
  have hT : ∀ w ∈ gT, w.before _ s = true := fun w hw => hts w (List.mem_cons_of_mem _ hw)
  have hown : s.vm.findClass RX8 = some m.cls := findClass_of_methodNamed B.named
  have hlocks := B.notSynchronized
  have hS : va_S (gA X) s.heap s.heap [] := va_S.rf
  have hl := lv_entry ([.ref (xA X 0)]) (n := 2) (Nat.le_of_ble_eq_true rfl)
  rw [lg_entry_eq]
  generalize (lg_sl ([.ref (xA X 0)]) ++ List.replicate (2 - (lg_sl ([.ref (xA X 0)])).length) Slot.unset).toArray = ls at hl ⊢
  have hl : lv_has ls 2 [(0, .ref (xA X 0))] := hl
  have hL2 : ∀ (n2 : Nat) (v1 : Int32) (gi : Nat → Int32) (H : Heap) (locs : List Loc) (ls : Array Slot), lv_has ls 2 [(0, .ref (xA X 0)), (1, .int v1)] → va_P X.1 vwCl (cG X gi gl ga vS vF sN sF) H → va_S (gA X) s.heap H locs → X8_jester_2 vS vF n2 v1 gi = some (o0, o_gi) → W p l e (headSpec (Cond.code yX8_jester cX8_jester 2 (some .int) :: gT) { frames := 5, cells := 0, slots := 0, locals := 110 }).room s m [.ref (xA X 0)].toArray below meth c H locs 0 0 (MQ below (wQ (some (.int o0)) (fun H => va_P X.1 vwCl (cG X o_gi gl ga vS vF sN sF) H) (gA X)) [.ref (xA X 0)].toArray s 0 0 (gA X)) (F0 m 2 ls []) := by
    intro n2
    induction n2 with
    | zero =>
      intro v1 gi H locs ls hl hP hS h
      rw [X8_jester_2] at h
      cases h
    | succ n2 ih2 =>
      intro v1 gi H locs ls hl hP hS h
      rw [X8_jester_2] at h
      refine lv_iload_n hx hb dX8_jester_2 rfl (lv_at hl 1 rfl) ?_
      refine lv_aload_n hx hb dX8_jester_3 rfl (lv_at hl 0 rfl) ?_
      refine rg_G_village hx hb hT hown hK hP w_188 dX8_jester_4 ?_
      refine rg_V_people (q := (0)) hx hb hT hown hK hP (by decide : 0 < 4) w_87 dX8_jester_7 ?_
      refine lv_icmp_ge (tgt := 43) hx hb dX8_jester_10 (by decide) (fun c10 => ?_) (fun c10 => ?_)
      · replace h := if_t c10 h
        refine lv_bipush (v := -9) hx hb dX8_jester_43 (by decide) ?_
        cases h
        exact W.iret hx hb hr (fun t ht _ => ⟨rfl, by rw [ht]; exact hP, hS.F ht⟩) hS.2.2 dX8_jester_45
      · replace h := if_f c10 h
        refine lv_aload_n hx hb dX8_jester_13 rfl (lv_at hl 0 rfl) ?_
        refine rg_G_village hx hb hT hown hK hP w_188 dX8_jester_14 ?_
        refine lv_iload_n hx hb dX8_jester_17 rfl (lv_at hl 1 rfl) ?_
        obtain ⟨r18, hc18, h⟩ := Option.bind_eq_some_iff.mp h
        refine rcV (As := [.int v1]) (rest := []) ⟨hx, hb, hml, hown, hts⟩ (c_X7_isAmused l X gi gl ga vS vF sN sF v1 hc18) ⟨w_453, w_454, w_455, w_53, w_456⟩ hd_X7_isAmused rfl rfl ⟨(Nat.le_of_ble_eq_true rfl), (Nat.le_of_ble_eq_true rfl)⟩ ⟨Nat.zero_le _, Nat.zero_le _⟩ gPre_blind (va_recv hK hP (ci := 3) rfl (cG_v (by decide : 0 < 4))) (gPre_call hP hK hN hZ hS) rfl rfl hl.1 (Nat.le_of_ble_eq_true rfl) dX8_jester_18 ?_
        refine lv_if_eq (tgt := 37) hx hb dX8_jester_21 (by decide) (fun c21 => ?_) (fun c21 => ?_)
        · replace h := if_t c21 h
          refine lv_iinc (v := (v1 + (1 : Int32))) (lv' := [(1, .int (v1 + (1 : Int32))), (0, .ref (xA X 0))]) hx hb dX8_jester_37 hl (k := 1) rfl rfl (by decide) rfl (fun ls hl => ?_)
          refine lv_goto (tgt := 2) hx hb dX8_jester_40 (by decide) ?_
          exact ih2 (v1 + (1 : Int32)) gi _ _ ls (lv_sub hl [1, 0] rfl) hP hS h
        · replace h := if_f c21 h
          refine lv_aload_n hx hb dX8_jester_24 rfl (lv_at hl 0 rfl) ?_
          refine lv_aload_n hx hb dX8_jester_25 rfl (lv_at hl 0 rfl) ?_
          refine rg_G_village hx hb hT hown hK hP w_188 dX8_jester_26 ?_
          obtain ⟨r29, hc29, h⟩ := Option.bind_eq_some_iff.mp h
          refine rcV (As := []) (rest := [.ref (xA X 0)]) ⟨hx, hb, hml, hown, hts⟩ (c_X7_stuckCount l X gi gl ga vS vF sN sF hc29) ⟨w_467, w_387, w_388, w_53, w_389⟩ hd_X7_stuckCount rfl rfl ⟨(Nat.le_of_ble_eq_true rfl), (Nat.le_of_ble_eq_true rfl)⟩ ⟨Nat.zero_le _, Nat.zero_le _⟩ gPre_blind (va_recv hK hP (ci := 3) rfl (cG_v (by decide : 0 < 4))) (gPre_call hP hK hN hZ hS) rfl rfl hl.1 (Nat.le_of_ble_eq_true rfl) dX8_jester_29 ?_
          refine rp_G_told hx hb hT hown hK hP hN hS w_194 dX8_jester_32 (fun H locs hP hS => ?_)
          generalize egi_32 : va_up gi 1 r29 = gi_32 at hP
          replace h := lt_g h egi_32
          refine lv_iload_n hx hb dX8_jester_35 rfl (lv_at hl 1 rfl) ?_
          cases h
          exact W.iret hx hb hr (fun t ht _ => ⟨rfl, by rw [ht]; exact hP, hS.F ht⟩) hS.2.2 dX8_jester_36
  rw [X8_jester] at h
  refine lv_iconst (v := 0) hx hb dX8_jester_0 (by decide) ?_
  refine lv_istore_n (lv' := [(1, .int (0 : Int32)), (0, .ref (xA X 0))]) hx hb dX8_jester_1 rfl hl (by decide) rfl (fun ls hl => ?_)
  exact hL2 500 (0 : Int32) gi _ _ ls (lv_sub hl [1, 0] rfl) hP hS h
set_option maxRecDepth 100000 in
set_option maxHeartbeats 4000000 in
theorem c_X8_ways (l : Launch) (X : gX) (gi : Nat → Int32) (gl : Nat → Int64) (ga : Nat → Nat → Int32) (vS : Nat → Nat → Int32) (vF : Nat → Nat → Nat → Int32) (sN : Nat → Int32) (sF : Nat → Nat → Int32) {o0 : Int32} (h : X8_ways vS vF = some o0) : Met l yX8_ways (Cond.code yX8_ways cX8_ways 1 (some .int) :: gT) { frames := 4, cells := 0, slots := 0, locals := 89 } (va_Pc [.ref (xA X 0)] (gPre X gi gl ga vS vF sN sF)) (k2_QcV (.int o0)) 0 0 (fun _ => False) := by
  refine Met.ofW (cc := cX8_ways) (maxL := 1) (ret := (some .int)) (by decide) rfl ?_
  intro p e s m args below meth c s₁ B hml hv
  obtain ⟨rfl, hP, hK, hN, hZ⟩ := hv
  have hx := B.exec
  have hb := B.bytes
  have hr := B.returns
  have hts := atoms_spec (ws := (Cond.code yX8_ways cX8_ways 1 (some .int) :: gT)) B.pre
  have hT : ∀ w ∈ gT, w.before _ s = true := fun w hw => hts w (List.mem_cons_of_mem _ hw)
  have hown : s.vm.findClass RX8 = some m.cls := findClass_of_methodNamed B.named
  have hlocks := B.notSynchronized
  have hS : va_S (gA X) s.heap s.heap [] := va_S.rf
  have hl := lv_entry ([.ref (xA X 0)]) (n := 1) (Nat.le_of_ble_eq_true rfl)
  rw [lg_entry_eq]
  generalize (lg_sl ([.ref (xA X 0)]) ++ List.replicate (1 - (lg_sl ([.ref (xA X 0)])).length) Slot.unset).toArray = ls at hl ⊢
  have hl : lv_has ls 1 [(0, .ref (xA X 0))] := hl
  rw [X8_ways] at h
  refine lv_aload_n hx hb dX8_ways_0 rfl (lv_at hl 0 rfl) ?_
  refine rg_G_village hx hb hT hown hK hP w_188 dX8_ways_1 ?_
  obtain ⟨r4, hc4, h⟩ := Option.bind_eq_some_iff.mp h
  refine rcV (As := []) (rest := []) ⟨hx, hb, hml, hown, hts⟩ (c_X7_touches l X gi gl ga vS vF sN sF hc4) ⟨w_591, w_592, w_593, w_53, w_594⟩ hd_X7_touches rfl rfl ⟨(Nat.le_of_ble_eq_true rfl), (Nat.le_of_ble_eq_true rfl)⟩ ⟨Nat.zero_le _, Nat.zero_le _⟩ gPre_blind (va_recv hK hP (ci := 3) rfl (cG_v (by decide : 0 < 4))) (gPre_call hP hK hN hZ hS) rfl rfl hl.1 (Nat.le_of_ble_eq_true rfl) dX8_ways_4 ?_
  cases h
  exact W.iret hx hb hr (fun t ht _ => ⟨rfl, ht⟩) (fun _ hq => by cases hq) dX8_ways_7
set_option maxRecDepth 100000 in
set_option maxHeartbeats 4000000 in
theorem c_X8_feed (l : Launch) (X : gX) (gi : Nat → Int32) (gl : Nat → Int64) (ga : Nat → Nat → Int32) (vS : Nat → Nat → Int32) (vF : Nat → Nat → Nat → Int32) (sN : Nat → Int32) (sF : Nat → Nat → Int32) (a1 : Int32) (a2 : Int32) {o0 : Int32} (h : X8_feed vS vF a1 a2 = some o0) : Met l yX8_feed (Cond.code yX8_feed cX8_feed 3 (some .int) :: gT) { frames := 4, cells := 0, slots := 0, locals := 96 } (va_Pc [.ref (xA X 0), .int a1, .int a2] (gPre X gi gl ga vS vF sN sF)) (k2_QcV (.int o0)) 0 0 (fun _ => False) := by
  refine Met.ofW (cc := cX8_feed) (maxL := 3) (ret := (some .int)) (by decide) rfl ?_
  intro p e s m args below meth c s₁ B hml hv
  obtain ⟨rfl, hP, hK, hN, hZ⟩ := hv
  have hx := B.exec
  have hb := B.bytes
  have hr := B.returns
  have hts := atoms_spec (ws := (Cond.code yX8_feed cX8_feed 3 (some .int) :: gT)) B.pre
  have hT : ∀ w ∈ gT, w.before _ s = true := fun w hw => hts w (List.mem_cons_of_mem _ hw)
  have hown : s.vm.findClass RX8 = some m.cls := findClass_of_methodNamed B.named
  have hlocks := B.notSynchronized
  have hS : va_S (gA X) s.heap s.heap [] := va_S.rf
  have hl := lv_entry ([.ref (xA X 0), .int a1, .int a2]) (n := 3) (Nat.le_of_ble_eq_true rfl)
  rw [lg_entry_eq]
  generalize (lg_sl ([.ref (xA X 0), .int a1, .int a2]) ++ List.replicate (3 - (lg_sl ([.ref (xA X 0), .int a1, .int a2])).length) Slot.unset).toArray = ls at hl ⊢
  have hl : lv_has ls 3 [(0, .ref (xA X 0)), (1, .int a1), (2, .int a2)] := hl
  rw [X8_feed] at h
  refine lv_aload_n hx hb dX8_feed_0 rfl (lv_at hl 0 rfl) ?_
  refine rg_G_village hx hb hT hown hK hP w_188 dX8_feed_1 ?_
  refine lv_iload_n hx hb dX8_feed_4 rfl (lv_at hl 1 rfl) ?_
  obtain ⟨r5, hc5, h⟩ := Option.bind_eq_some_iff.mp h
  refine rcV (As := [.int a1]) (rest := []) ⟨hx, hb, hml, hown, hts⟩ (c_X7_isPerson l X gi gl ga vS vF sN sF a1 hc5) ⟨w_328, w_329, w_330, w_53, w_331⟩ hd_X7_isPerson rfl rfl ⟨(Nat.le_of_ble_eq_true rfl), (Nat.le_of_ble_eq_true rfl)⟩ ⟨Nat.zero_le _, Nat.zero_le _⟩ gPre_blind (va_recv hK hP (ci := 3) rfl (cG_v (by decide : 0 < 4))) (gPre_call hP hK hN hZ hS) rfl rfl hl.1 (Nat.le_of_ble_eq_true rfl) dX8_feed_5 ?_
  refine lv_if_eq (tgt := 27) hx hb dX8_feed_8 (by decide) (fun c8 => ?_) (fun c8 => ?_)
  · replace h := if_t c8 h
    refine lv_iconst (v := -1) hx hb dX8_feed_27 (by decide) ?_
    cases h
    exact W.iret hx hb hr (fun t ht _ => ⟨rfl, ht⟩) (fun _ hq => by cases hq) dX8_feed_28
  · replace h := if_f c8 h
    refine lv_aload_n hx hb dX8_feed_11 rfl (lv_at hl 0 rfl) ?_
    refine rg_G_village hx hb hT hown hK hP w_188 dX8_feed_12 ?_
    refine lv_iload_n hx hb dX8_feed_15 rfl (lv_at hl 2 rfl) ?_
    obtain ⟨r16, hc16, h⟩ := Option.bind_eq_some_iff.mp h
    refine rcV (As := [.int a2]) (rest := []) ⟨hx, hb, hml, hown, hts⟩ (c_X7_isPerson l X gi gl ga vS vF sN sF a2 hc16) ⟨w_328, w_329, w_330, w_53, w_331⟩ hd_X7_isPerson rfl rfl ⟨(Nat.le_of_ble_eq_true rfl), (Nat.le_of_ble_eq_true rfl)⟩ ⟨Nat.zero_le _, Nat.zero_le _⟩ gPre_blind (va_recv hK hP (ci := 3) rfl (cG_v (by decide : 0 < 4))) (gPre_call hP hK hN hZ hS) rfl rfl hl.1 (Nat.le_of_ble_eq_true rfl) dX8_feed_16 ?_
    refine lv_if_eq (tgt := 27) hx hb dX8_feed_19 (by decide) (fun c19 => ?_) (fun c19 => ?_)
    · replace h := if_t c19 h
      refine lv_iconst (v := -1) hx hb dX8_feed_27 (by decide) ?_
      cases h
      exact W.iret hx hb hr (fun t ht _ => ⟨rfl, ht⟩) (fun _ hq => by cases hq) dX8_feed_28
    · replace h := if_f c19 h
      refine lv_iload_n hx hb dX8_feed_22 rfl (lv_at hl 1 rfl) ?_
      refine lv_iload_n hx hb dX8_feed_23 rfl (lv_at hl 2 rfl) ?_
      refine lv_icmp_ne (tgt := 29) hx hb dX8_feed_24 (by decide) (fun c24 => ?_) (fun c24 => ?_)
      · replace h := if_f c24 h
        refine lv_aload_n hx hb dX8_feed_29 rfl (lv_at hl 0 rfl) ?_
        refine rg_G_village hx hb hT hown hK hP w_188 dX8_feed_30 ?_
        refine lv_iload_n hx hb dX8_feed_33 rfl (lv_at hl 1 rfl) ?_
        obtain ⟨r34, hc34, h⟩ := Option.bind_eq_some_iff.mp h
        refine rcV (As := [.int a1]) (rest := []) ⟨hx, hb, hml, hown, hts⟩ (c_X7_isStuck l X gi gl ga vS vF sN sF a1 hc34) ⟨w_375, w_353, w_354, w_53, w_355⟩ hd_X7_isStuck rfl rfl ⟨(Nat.le_of_ble_eq_true rfl), (Nat.le_of_ble_eq_true rfl)⟩ ⟨Nat.zero_le _, Nat.zero_le _⟩ gPre_blind (va_recv hK hP (ci := 3) rfl (cG_v (by decide : 0 < 4))) (gPre_call hP hK hN hZ hS) rfl rfl hl.1 (Nat.le_of_ble_eq_true rfl) dX8_feed_34 ?_
        refine lv_if_eq (tgt := 51) hx hb dX8_feed_37 (by decide) (fun c37 => ?_) (fun c37 => ?_)
        · replace h := if_t c37 h
          refine lv_bipush (v := -4) hx hb dX8_feed_51 (by decide) ?_
          cases h
          exact W.iret hx hb hr (fun t ht _ => ⟨rfl, ht⟩) (fun _ hq => by cases hq) dX8_feed_53
        · replace h := if_f c37 h
          refine lv_aload_n hx hb dX8_feed_40 rfl (lv_at hl 0 rfl) ?_
          refine rg_G_village hx hb hT hown hK hP w_188 dX8_feed_41 ?_
          refine lv_iload_n hx hb dX8_feed_44 rfl (lv_at hl 2 rfl) ?_
          obtain ⟨r45, hc45, h⟩ := Option.bind_eq_some_iff.mp h
          refine rcV (As := [.int a2]) (rest := []) ⟨hx, hb, hml, hown, hts⟩ (c_X7_isStuck l X gi gl ga vS vF sN sF a2 hc45) ⟨w_375, w_353, w_354, w_53, w_355⟩ hd_X7_isStuck rfl rfl ⟨(Nat.le_of_ble_eq_true rfl), (Nat.le_of_ble_eq_true rfl)⟩ ⟨Nat.zero_le _, Nat.zero_le _⟩ gPre_blind (va_recv hK hP (ci := 3) rfl (cG_v (by decide : 0 < 4))) (gPre_call hP hK hN hZ hS) rfl rfl hl.1 (Nat.le_of_ble_eq_true rfl) dX8_feed_45 ?_
          refine lv_if_ne (tgt := 54) hx hb dX8_feed_48 (by decide) (fun c48 => ?_) (fun c48 => ?_)
          · replace h := if_f c48 h
            refine lv_aload_n hx hb dX8_feed_54 rfl (lv_at hl 0 rfl) ?_
            refine rg_G_village hx hb hT hown hK hP w_188 dX8_feed_55 ?_
            refine lv_iload_n hx hb dX8_feed_58 rfl (lv_at hl 1 rfl) ?_
            refine lv_iload_n hx hb dX8_feed_59 rfl (lv_at hl 2 rfl) ?_
            obtain ⟨r60, hc60, h⟩ := Option.bind_eq_some_iff.mp h
            refine rcS (As := [.ref (xAV X (0) 0), .int a1, .int a2]) (rest := []) ⟨hx, hb, hml, hown, hts⟩ (c_X0_passings l X gi gl ga vS vF sN sF a1 a2 hc60) ⟨w_600, w_409, w_54, w_410⟩ hd_X0_passings rfl rfl ⟨(Nat.le_of_ble_eq_true rfl), (Nat.le_of_ble_eq_true rfl)⟩ ⟨Nat.zero_le _, Nat.zero_le _⟩ gPre_blind (gPre_call hP hK hN hZ hS) rfl rfl hl.1 (Nat.le_of_ble_eq_true rfl) dX8_feed_60 ?_
            cases h
            exact W.iret hx hb hr (fun t ht _ => ⟨rfl, ht⟩) (fun _ hq => by cases hq) dX8_feed_63
          · replace h := if_t c48 h
            refine lv_bipush (v := -4) hx hb dX8_feed_51 (by decide) ?_
            cases h
            exact W.iret hx hb hr (fun t ht _ => ⟨rfl, ht⟩) (fun _ hq => by cases hq) dX8_feed_53
      · replace h := if_t c24 h
        refine lv_iconst (v := -1) hx hb dX8_feed_27 (by decide) ?_
        cases h
        exact W.iret hx hb hr (fun t ht _ => ⟨rfl, ht⟩) (fun _ hq => by cases hq) dX8_feed_28
set_option maxRecDepth 100000 in
set_option maxHeartbeats 4000000 in
theorem c_X8_spoons (l : Launch) (X : gX) (gi : Nat → Int32) (gl : Nat → Int64) (ga : Nat → Nat → Int32) (vS : Nat → Nat → Int32) (vF : Nat → Nat → Nat → Int32) (sN : Nat → Int32) (sF : Nat → Nat → Int32) {o0 : Int32} {o_gi : Nat → Int32} {o_ga : Nat → Nat → Int32} (h : X8_spoons vS vF gi ga = some (o0, o_gi, o_ga)) : Met l yX8_spoons (Cond.code yX8_spoons cX8_spoons 1 (some .int) :: gT) { frames := 6, cells := 0, slots := 0, locals := 144 } (va_Pc [.ref (xA X 0)] (gPre X gi gl ga vS vF sN sF)) (wQ (some (.int o0)) (fun H => va_P X.1 vwCl (cG X o_gi gl o_ga vS vF sN sF) H) (gA X)) 0 0 (gA X) := by
  refine Met.ofW (cc := cX8_spoons) (maxL := 1) (ret := (some .int)) (by decide) rfl ?_
  intro p e s m args below meth c s₁ B hml hv
  obtain ⟨rfl, hP, hK, hN, hZ⟩ := hv
  have hx := B.exec
  have hb := B.bytes
  have hr := B.returns
  have hts := atoms_spec (ws := (Cond.code yX8_spoons cX8_spoons 1 (some .int) :: gT)) B.pre
  have hT : ∀ w ∈ gT, w.before _ s = true := fun w hw => hts w (List.mem_cons_of_mem _ hw)
  have hown : s.vm.findClass RX8 = some m.cls := findClass_of_methodNamed B.named
  have hlocks := B.notSynchronized
  have hS : va_S (gA X) s.heap s.heap [] := va_S.rf
  have hl := lv_entry ([.ref (xA X 0)]) (n := 1) (Nat.le_of_ble_eq_true rfl)
  rw [lg_entry_eq]
  generalize (lg_sl ([.ref (xA X 0)]) ++ List.replicate (1 - (lg_sl ([.ref (xA X 0)])).length) Slot.unset).toArray = ls at hl ⊢
  have hl : lv_has ls 1 [(0, .ref (xA X 0))] := hl
  rw [X8_spoons] at h
  refine lv_aload_n hx hb dX8_spoons_0 rfl (lv_at hl 0 rfl) ?_
  refine lv_aload_n hx hb dX8_spoons_1 rfl (lv_at hl 0 rfl) ?_
  refine rg_G_food hx hb hT hown hK hP w_190 dX8_spoons_2 ?_
  refine lv_aload_n hx hb dX8_spoons_5 rfl (lv_at hl 0 rfl) ?_
  refine rg_G_village hx hb hT hown hK hP w_188 dX8_spoons_6 ?_
  obtain ⟨r9, ga_9, hc9, h⟩ := bd2_e h
  refine wcV (As := [.ref (xAV X (0) 0)]) (rest := [.ref (xA X 0)]) ⟨hx, hb, hml, hown, hts⟩ (c_X0_fewestSpoons l X gi gl ga vS vF sN sF hc9) ⟨w_605, w_606, w_607, w_54, w_608⟩ hd_X0_fewestSpoons rfl rfl ⟨(Nat.le_of_ble_eq_true rfl), (Nat.le_of_ble_eq_true rfl)⟩ ⟨Nat.zero_le _, Nat.zero_le _⟩ gPre_blind (va_recv hK hP (ci := 0) rfl cG_b4) (gPre_call hP hK hN hZ hS) hS (fun _ h => h) rfl rfl hl.1 (Nat.le_of_ble_eq_true rfl) dX8_spoons_9 (fun H locs hP _ hS => ?_)
  have hP : va_P X.1 vwCl (cG X gi gl ga_9 vS vF sN sF) H := hP
  refine W.eq (g2 := F0 m 12 ls [.int r9, .ref (xA X 0)]) rfl ?_
  refine rp_G_told hx hb hT hown hK hP hN hS w_194 dX8_spoons_12 (fun H locs hP hS => ?_)
  generalize egi_12 : va_up gi 1 r9 = gi_12 at hP
  replace h := lt_g h egi_12
  refine lv_aload_n hx hb dX8_spoons_15 rfl (lv_at hl 0 rfl) ?_
  refine rg_G_told hx hb hT hown hK hP w_194 dX8_spoons_16 ?_
  obtain ⟨r19, hc19, h⟩ := Option.bind_eq_some_iff.mp h
  refine rcS (As := [.int (gi_12 1)]) (rest := []) ⟨hx, hb, hml, hown, hts⟩ (c_J6_bitCount_0f7a4 l (gi_12 1) hc19) ⟨w_416, w_357, w_63, w_358⟩ hd_J6_bitCount_0f7a4 rfl rfl ⟨(Nat.le_of_ble_eq_true rfl), (Nat.le_of_ble_eq_true rfl)⟩ ⟨Nat.zero_le _, Nat.zero_le _⟩ (fun _ _ _ _ h => h) (fun _ _ _ => trivial) rfl rfl hl.1 (Nat.le_of_ble_eq_true rfl) dX8_spoons_19 ?_
  cases h
  exact W.iret hx hb hr (fun t ht _ => ⟨rfl, by rw [ht]; exact hP, hS.F ht⟩) hS.2.2 dX8_spoons_22
set_option maxRecDepth 100000 in
set_option maxHeartbeats 4000000 in
theorem c_X8_orders (l : Launch) (X : gX) (gi : Nat → Int32) (gl : Nat → Int64) (ga : Nat → Nat → Int32) (vS : Nat → Nat → Int32) (vF : Nat → Nat → Nat → Int32) (sN : Nat → Int32) (sF : Nat → Nat → Int32) {o0 : Int32} {o_gi : Nat → Int32} {o_gl : Nat → Int64} {o_ga : Nat → Nat → Int32} (h : X8_orders vS vF gi gl ga = some (o0, o_gi, o_gl, o_ga)) : Met l yX8_orders (Cond.code yX8_orders cX8_orders 1 (some .int) :: gT) { frames := 3, cells := 0, slots := 0, locals := 83 } (va_Pc [.ref (xA X 0)] (gPre X gi gl ga vS vF sN sF)) (wQ (some (.int o0)) (fun H => va_P X.1 vwCl (cG X o_gi o_gl o_ga vS vF sN sF) H) (gA X)) 0 0 (gA X) := by
  refine Met.ofW (cc := cX8_orders) (maxL := 1) (ret := (some .int)) (by decide) rfl ?_
  intro p e s m args below meth c s₁ B hml hv
  obtain ⟨rfl, hP, hK, hN, hZ⟩ := hv
  have hx := B.exec
  have hb := B.bytes
  have hr := B.returns
  have hts := atoms_spec (ws := (Cond.code yX8_orders cX8_orders 1 (some .int) :: gT)) B.pre
  have hT : ∀ w ∈ gT, w.before _ s = true := fun w hw => hts w (List.mem_cons_of_mem _ hw)
  have hown : s.vm.findClass RX8 = some m.cls := findClass_of_methodNamed B.named
  have hlocks := B.notSynchronized
  have hS : va_S (gA X) s.heap s.heap [] := va_S.rf
  have hl := lv_entry ([.ref (xA X 0)]) (n := 1) (Nat.le_of_ble_eq_true rfl)
  rw [lg_entry_eq]
  generalize (lg_sl ([.ref (xA X 0)]) ++ List.replicate (1 - (lg_sl ([.ref (xA X 0)])).length) Slot.unset).toArray = ls at hl ⊢
  have hl : lv_has ls 1 [(0, .ref (xA X 0))] := hl
  rw [X8_orders] at h
  refine lv_aload_n hx hb dX8_orders_0 rfl (lv_at hl 0 rfl) ?_
  refine rg_G_lines hx hb hT hown hK hP w_191 dX8_orders_1 ?_
  refine lv_aload_n hx hb dX8_orders_4 rfl (lv_at hl 0 rfl) ?_
  refine rg_G_village hx hb hT hown hK hP w_188 dX8_orders_5 ?_
  obtain ⟨gi_8, ga_8, hc8, h⟩ := bd2_e h
  refine wcV (As := [.ref (xAV X (0) 0)]) (rest := []) ⟨hx, hb, hml, hown, hts⟩ (c_X3_look l X gi gl ga vS vF sN sF hc8) ⟨w_619, w_620, w_621, w_55, w_622⟩ hd_X3_look rfl rfl ⟨(Nat.le_of_ble_eq_true rfl), (Nat.le_of_ble_eq_true rfl)⟩ ⟨Nat.zero_le _, Nat.zero_le _⟩ gPre_blind (va_recv hK hP (ci := 1) rfl cG_b5) (gPre_call hP hK hN hZ hS) hS (fun _ h => h) rfl rfl hl.1 (Nat.le_of_ble_eq_true rfl) dX8_orders_8 (fun H locs hP _ hS => ?_)
  have hP : va_P X.1 vwCl (cG X gi_8 gl ga_8 vS vF sN sF) H := hP
  refine W.eq (g2 := F0 m 11 ls []) rfl ?_
  refine lv_aload_n hx hb dX8_orders_11 rfl (lv_at hl 0 rfl) ?_
  refine lv_aload_n hx hb dX8_orders_12 rfl (lv_at hl 0 rfl) ?_
  refine rg_G_lines hx hb hT hown hK hP w_191 dX8_orders_13 ?_
  obtain ⟨r16, hc16, h⟩ := Option.bind_eq_some_iff.mp h
  refine rcV (As := []) (rest := [.ref (xA X 0)]) ⟨hx, hb, hml, hown, hts⟩ (c_X3_all l X gi_8 gl ga_8 vS vF sN sF hc16) ⟨w_633, w_634, w_635, w_55, w_636⟩ hd_X3_all rfl rfl ⟨(Nat.le_of_ble_eq_true rfl), (Nat.le_of_ble_eq_true rfl)⟩ ⟨Nat.zero_le _, Nat.zero_le _⟩ gPre_blind (va_recv hK hP (ci := 1) rfl cG_b5) (gPre_call hP hK hN hZ hS) rfl rfl hl.1 (Nat.le_of_ble_eq_true rfl) dX8_orders_16 ?_
  refine lv_i2l hx hb dX8_orders_19 rfl ?_
  refine lv_lconst (v := 1) hx hb dX8_orders_20 (by decide) ?_
  obtain ⟨gl_21, hc21, h⟩ := Option.bind_eq_some_iff.mp h
  refine wcV (As := [.long r16.toInt64, .long (1 : Int64)]) (rest := []) ⟨hx, hb, hml, hown, hts⟩ (c_X8_tellFraction l X gi_8 gl ga_8 vS vF sN sF r16.toInt64 (1 : Int64) hc21) ⟨w_637, w_639, w_6, w_52, w_640⟩ hd_X8_tellFraction rfl rfl ⟨(Nat.le_of_ble_eq_true rfl), (Nat.le_of_ble_eq_true rfl)⟩ ⟨Nat.zero_le _, Nat.zero_le _⟩ gPre_blind (va_recv hK hP (ci := 4) rfl cG_b0) (gPre_call hP hK hN hZ hS) hS (fun _ h => h) rfl rfl hl.1 (Nat.le_of_ble_eq_true rfl) dX8_orders_21 (fun H locs hP _ hS => ?_)
  have hP : va_P X.1 vwCl (cG X gi_8 gl_21 ga_8 vS vF sN sF) H := hP
  refine W.eq (g2 := F0 m 24 ls []) rfl ?_
  refine lv_iconst (v := 1) hx hb dX8_orders_24 (by decide) ?_
  cases h
  exact W.iret hx hb hr (fun t ht _ => ⟨rfl, by rw [ht]; exact hP, hS.F ht⟩) hS.2.2 dX8_orders_25
set_option maxRecDepth 100000 in
set_option maxHeartbeats 4000000 in
theorem c_X8_came (l : Launch) (X : gX) (gi : Nat → Int32) (gl : Nat → Int64) (ga : Nat → Nat → Int32) (vS : Nat → Nat → Int32) (vF : Nat → Nat → Nat → Int32) (sN : Nat → Int32) (sF : Nat → Nat → Int32) (a1 : Int32) (a2 : Int32) {o0 : Int32} {o_gi : Nat → Int32} {o_gl : Nat → Int64} {o_ga : Nat → Nat → Int32} (h : X8_came vS vF a1 a2 gi gl ga = some (o0, o_gi, o_gl, o_ga)) : Met l yX8_came (Cond.code yX8_came cX8_came 3 (some .int) :: gT) { frames := 3, cells := 0, slots := 0, locals := 83 } (va_Pc [.ref (xA X 0), .int a1, .int a2] (gPre X gi gl ga vS vF sN sF)) (wQ (some (.int o0)) (fun H => va_P X.1 vwCl (cG X o_gi o_gl o_ga vS vF sN sF) H) (gA X)) 0 0 (gA X) := by
  refine Met.ofW (cc := cX8_came) (maxL := 3) (ret := (some .int)) (by decide) rfl ?_
  intro p e s m args below meth c s₁ B hml hv
  obtain ⟨rfl, hP, hK, hN, hZ⟩ := hv
  have hx := B.exec
  have hb := B.bytes
  have hr := B.returns
  have hts := atoms_spec (ws := (Cond.code yX8_came cX8_came 3 (some .int) :: gT)) B.pre
  have hT : ∀ w ∈ gT, w.before _ s = true := fun w hw => hts w (List.mem_cons_of_mem _ hw)
  have hown : s.vm.findClass RX8 = some m.cls := findClass_of_methodNamed B.named
  have hlocks := B.notSynchronized
  have hS : va_S (gA X) s.heap s.heap [] := va_S.rf
  have hl := lv_entry ([.ref (xA X 0), .int a1, .int a2]) (n := 3) (Nat.le_of_ble_eq_true rfl)
  rw [lg_entry_eq]
  generalize (lg_sl ([.ref (xA X 0), .int a1, .int a2]) ++ List.replicate (3 - (lg_sl ([.ref (xA X 0), .int a1, .int a2])).length) Slot.unset).toArray = ls at hl ⊢
  have hl : lv_has ls 3 [(0, .ref (xA X 0)), (1, .int a1), (2, .int a2)] := hl
  rw [X8_came] at h
  refine lv_aload_n hx hb dX8_came_0 rfl (lv_at hl 0 rfl) ?_
  refine rg_G_village hx hb hT hown hK hP w_188 dX8_came_1 ?_
  refine lv_iload_n hx hb dX8_came_4 rfl (lv_at hl 1 rfl) ?_
  obtain ⟨r5, hc5, h⟩ := Option.bind_eq_some_iff.mp h
  refine rcV (As := [.int a1]) (rest := []) ⟨hx, hb, hml, hown, hts⟩ (c_X7_isPerson l X gi gl ga vS vF sN sF a1 hc5) ⟨w_328, w_329, w_330, w_53, w_331⟩ hd_X7_isPerson rfl rfl ⟨(Nat.le_of_ble_eq_true rfl), (Nat.le_of_ble_eq_true rfl)⟩ ⟨Nat.zero_le _, Nat.zero_le _⟩ gPre_blind (va_recv hK hP (ci := 3) rfl (cG_v (by decide : 0 < 4))) (gPre_call hP hK hN hZ hS) rfl rfl hl.1 (Nat.le_of_ble_eq_true rfl) dX8_came_5 ?_
  refine lv_if_eq (tgt := 15) hx hb dX8_came_8 (by decide) (fun c8 => ?_) (fun c8 => ?_)
  · replace h := if_t c8 h
    refine lv_iconst (v := -1) hx hb dX8_came_15 (by decide) ?_
    cases h
    exact W.iret hx hb hr (fun t ht _ => ⟨rfl, by rw [ht]; exact hP, hS.F ht⟩) hS.2.2 dX8_came_16
  · replace h := if_f c8 h
    refine lv_iload_n hx hb dX8_came_11 rfl (lv_at hl 2 rfl) ?_
    refine lv_if_ge (tgt := 17) hx hb dX8_came_12 (by decide) (fun c12 => ?_) (fun c12 => ?_)
    · replace h := if_t c12 h
      refine lv_aload_n hx hb dX8_came_17 rfl (lv_at hl 0 rfl) ?_
      refine rg_G_village hx hb hT hown hK hP w_188 dX8_came_18 ?_
      obtain ⟨r21, hc21, h⟩ := Option.bind_eq_some_iff.mp h
      refine rcV (As := []) (rest := []) ⟨hx, hb, hml, hown, hts⟩ (c_X7_stuckSet l X gi gl ga vS vF sN sF hc21) ⟨w_485, w_391, w_392, w_53, w_393⟩ hd_X7_stuckSet rfl rfl ⟨(Nat.le_of_ble_eq_true rfl), (Nat.le_of_ble_eq_true rfl)⟩ ⟨Nat.zero_le _, Nat.zero_le _⟩ gPre_blind (va_recv hK hP (ci := 3) rfl (cG_v (by decide : 0 < 4))) (gPre_call hP hK hN hZ hS) rfl rfl hl.1 (Nat.le_of_ble_eq_true rfl) dX8_came_21 ?_
      refine lv_if_ne (tgt := 33) hx hb dX8_came_24 (by decide) (fun c24 => ?_) (fun c24 => ?_)
      · replace h := if_f c24 h
        refine lv_aload_n hx hb dX8_came_33 rfl (lv_at hl 0 rfl) ?_
        refine rg_G_lines hx hb hT hown hK hP w_191 dX8_came_34 ?_
        refine lv_aload_n hx hb dX8_came_37 rfl (lv_at hl 0 rfl) ?_
        refine rg_G_village hx hb hT hown hK hP w_188 dX8_came_38 ?_
        obtain ⟨gi_41, ga_41, hc41, h⟩ := bd2_e h
        refine wcV (As := [.ref (xAV X (0) 0)]) (rest := []) ⟨hx, hb, hml, hown, hts⟩ (c_X3_look l X gi gl ga vS vF sN sF hc41) ⟨w_619, w_620, w_621, w_55, w_622⟩ hd_X3_look rfl rfl ⟨(Nat.le_of_ble_eq_true rfl), (Nat.le_of_ble_eq_true rfl)⟩ ⟨Nat.zero_le _, Nat.zero_le _⟩ gPre_blind (va_recv hK hP (ci := 1) rfl cG_b5) (gPre_call hP hK hN hZ hS) hS (fun _ h => h) rfl rfl hl.1 (Nat.le_of_ble_eq_true rfl) dX8_came_41 (fun H locs hP _ hS => ?_)
        have hP : va_P X.1 vwCl (cG X gi_41 gl ga_41 vS vF sN sF) H := hP
        refine W.eq (g2 := F0 m 44 ls []) rfl ?_
        refine lv_aload_n hx hb dX8_came_44 rfl (lv_at hl 0 rfl) ?_
        refine lv_aload_n hx hb dX8_came_45 rfl (lv_at hl 0 rfl) ?_
        refine rg_G_lines hx hb hT hown hK hP w_191 dX8_came_46 ?_
        refine lv_iload_n hx hb dX8_came_49 rfl (lv_at hl 1 rfl) ?_
        refine lv_iload_n hx hb dX8_came_50 rfl (lv_at hl 2 rfl) ?_
        obtain ⟨r51, hc51, h⟩ := Option.bind_eq_some_iff.mp h
        refine rcV (As := [.int a1, .int a2]) (rest := [.ref (xA X 0)]) ⟨hx, hb, hml, hown, hts⟩ (c_X3_withPlace l X gi_41 gl ga_41 vS vF sN sF a1 a2 hc51) ⟨w_648, w_649, w_650, w_55, w_651⟩ hd_X3_withPlace rfl rfl ⟨(Nat.le_of_ble_eq_true rfl), (Nat.le_of_ble_eq_true rfl)⟩ ⟨Nat.zero_le _, Nat.zero_le _⟩ gPre_blind (va_recv hK hP (ci := 1) rfl cG_b5) (gPre_call hP hK hN hZ hS) rfl rfl hl.1 (Nat.le_of_ble_eq_true rfl) dX8_came_51 ?_
        refine lv_i2l hx hb dX8_came_54 rfl ?_
        refine lv_aload_n hx hb dX8_came_55 rfl (lv_at hl 0 rfl) ?_
        refine rg_G_lines hx hb hT hown hK hP w_191 dX8_came_56 ?_
        obtain ⟨r59, hc59, h⟩ := Option.bind_eq_some_iff.mp h
        refine rcV (As := []) (rest := [.long r51.toInt64, .ref (xA X 0)]) ⟨hx, hb, hml, hown, hts⟩ (c_X3_all l X gi_41 gl ga_41 vS vF sN sF hc59) ⟨w_633, w_634, w_635, w_55, w_636⟩ hd_X3_all rfl rfl ⟨(Nat.le_of_ble_eq_true rfl), (Nat.le_of_ble_eq_true rfl)⟩ ⟨Nat.zero_le _, Nat.zero_le _⟩ gPre_blind (va_recv hK hP (ci := 1) rfl cG_b5) (gPre_call hP hK hN hZ hS) rfl rfl hl.1 (Nat.le_of_ble_eq_true rfl) dX8_came_59 ?_
        refine lv_i2l hx hb dX8_came_62 rfl ?_
        obtain ⟨gl_63, hc63, h⟩ := Option.bind_eq_some_iff.mp h
        refine wcV (As := [.long r51.toInt64, .long r59.toInt64]) (rest := []) ⟨hx, hb, hml, hown, hts⟩ (c_X8_tellFraction l X gi_41 gl ga_41 vS vF sN sF r51.toInt64 r59.toInt64 hc63) ⟨w_637, w_639, w_6, w_52, w_640⟩ hd_X8_tellFraction rfl rfl ⟨(Nat.le_of_ble_eq_true rfl), (Nat.le_of_ble_eq_true rfl)⟩ ⟨Nat.zero_le _, Nat.zero_le _⟩ gPre_blind (va_recv hK hP (ci := 4) rfl cG_b0) (gPre_call hP hK hN hZ hS) hS (fun _ h => h) rfl rfl hl.1 (Nat.le_of_ble_eq_true rfl) dX8_came_63 (fun H locs hP _ hS => ?_)
        have hP : va_P X.1 vwCl (cG X gi_41 gl_63 ga_41 vS vF sN sF) H := hP
        refine W.eq (g2 := F0 m 66 ls []) rfl ?_
        refine lv_iconst (v := 1) hx hb dX8_came_66 (by decide) ?_
        cases h
        exact W.iret hx hb hr (fun t ht _ => ⟨rfl, by rw [ht]; exact hP, hS.F ht⟩) hS.2.2 dX8_came_67
      · replace h := if_t c24 h
        refine lv_aload_n hx hb dX8_came_27 rfl (lv_at hl 0 rfl) ?_
        refine lv_iconst (v := 4) hx hb dX8_came_28 (by decide) ?_
        obtain ⟨r29, gi_29, ga_29, hc29, h⟩ := bd3_e h
        refine wcV (As := [.int (4 : Int32)]) (rest := []) ⟨hx, hb, hml, hown, hts⟩ (c_X8_found l X gi gl ga vS vF sN sF (4 : Int32) hc29) ⟨w_227, w_229, w_0, w_52, w_230⟩ hd_X8_found rfl rfl ⟨(Nat.le_of_ble_eq_true rfl), (Nat.le_of_ble_eq_true rfl)⟩ ⟨Nat.zero_le _, Nat.zero_le _⟩ gPre_blind (va_recv hK hP (ci := 4) rfl cG_b0) (gPre_call hP hK hN hZ hS) hS (fun _ h => h) rfl rfl hl.1 (Nat.le_of_ble_eq_true rfl) dX8_came_29 (fun H locs hP _ hS => ?_)
        have hP : va_P X.1 vwCl (cG X gi_29 gl ga_29 vS vF sN sF) H := hP
        refine W.eq (g2 := F0 m 32 ls [.int r29]) rfl ?_
        cases h
        exact W.iret hx hb hr (fun t ht _ => ⟨rfl, by rw [ht]; exact hP, hS.F ht⟩) hS.2.2 dX8_came_32
    · replace h := if_f c12 h
      refine lv_iconst (v := -1) hx hb dX8_came_15 (by decide) ?_
      cases h
      exact W.iret hx hb hr (fun t ht _ => ⟨rfl, by rw [ht]; exact hP, hS.F ht⟩) hS.2.2 dX8_came_16
set_option maxRecDepth 100000 in
set_option maxHeartbeats 4000000 in
theorem c_X8_ahead (l : Launch) (X : gX) (gi : Nat → Int32) (gl : Nat → Int64) (ga : Nat → Nat → Int32) (vS : Nat → Nat → Int32) (vF : Nat → Nat → Nat → Int32) (sN : Nat → Int32) (sF : Nat → Nat → Int32) (a1 : Int32) (a2 : Int32) {o0 : Int32} {o_gi : Nat → Int32} {o_gl : Nat → Int64} {o_ga : Nat → Nat → Int32} (h : X8_ahead vS vF a1 a2 gi gl ga = some (o0, o_gi, o_gl, o_ga)) : Met l yX8_ahead (Cond.code yX8_ahead cX8_ahead 3 (some .int) :: gT) { frames := 3, cells := 0, slots := 0, locals := 83 } (va_Pc [.ref (xA X 0), .int a1, .int a2] (gPre X gi gl ga vS vF sN sF)) (wQ (some (.int o0)) (fun H => va_P X.1 vwCl (cG X o_gi o_gl o_ga vS vF sN sF) H) (gA X)) 0 0 (gA X) := by
  refine Met.ofW (cc := cX8_ahead) (maxL := 3) (ret := (some .int)) (by decide) rfl ?_
  intro p e s m args below meth c s₁ B hml hv
  obtain ⟨rfl, hP, hK, hN, hZ⟩ := hv
  have hx := B.exec
  have hb := B.bytes
  have hr := B.returns
  have hts := atoms_spec (ws := (Cond.code yX8_ahead cX8_ahead 3 (some .int) :: gT)) B.pre
  have hT : ∀ w ∈ gT, w.before _ s = true := fun w hw => hts w (List.mem_cons_of_mem _ hw)
  have hown : s.vm.findClass RX8 = some m.cls := findClass_of_methodNamed B.named
  have hlocks := B.notSynchronized
  have hS : va_S (gA X) s.heap s.heap [] := va_S.rf
  have hl := lv_entry ([.ref (xA X 0), .int a1, .int a2]) (n := 3) (Nat.le_of_ble_eq_true rfl)
  rw [lg_entry_eq]
  generalize (lg_sl ([.ref (xA X 0), .int a1, .int a2]) ++ List.replicate (3 - (lg_sl ([.ref (xA X 0), .int a1, .int a2])).length) Slot.unset).toArray = ls at hl ⊢
  have hl : lv_has ls 3 [(0, .ref (xA X 0)), (1, .int a1), (2, .int a2)] := hl
  rw [X8_ahead] at h
  refine lv_aload_n hx hb dX8_ahead_0 rfl (lv_at hl 0 rfl) ?_
  refine rg_G_village hx hb hT hown hK hP w_188 dX8_ahead_1 ?_
  refine lv_iload_n hx hb dX8_ahead_4 rfl (lv_at hl 1 rfl) ?_
  obtain ⟨r5, hc5, h⟩ := Option.bind_eq_some_iff.mp h
  refine rcV (As := [.int a1]) (rest := []) ⟨hx, hb, hml, hown, hts⟩ (c_X7_isStuck l X gi gl ga vS vF sN sF a1 hc5) ⟨w_375, w_353, w_354, w_53, w_355⟩ hd_X7_isStuck rfl rfl ⟨(Nat.le_of_ble_eq_true rfl), (Nat.le_of_ble_eq_true rfl)⟩ ⟨Nat.zero_le _, Nat.zero_le _⟩ gPre_blind (va_recv hK hP (ci := 3) rfl (cG_v (by decide : 0 < 4))) (gPre_call hP hK hN hZ hS) rfl rfl hl.1 (Nat.le_of_ble_eq_true rfl) dX8_ahead_5 ?_
  refine lv_if_eq (tgt := 27) hx hb dX8_ahead_8 (by decide) (fun c8 => ?_) (fun c8 => ?_)
  · replace h := if_t c8 h
    refine lv_iconst (v := -1) hx hb dX8_ahead_27 (by decide) ?_
    cases h
    exact W.iret hx hb hr (fun t ht _ => ⟨rfl, by rw [ht]; exact hP, hS.F ht⟩) hS.2.2 dX8_ahead_28
  · replace h := if_f c8 h
    refine lv_aload_n hx hb dX8_ahead_11 rfl (lv_at hl 0 rfl) ?_
    refine rg_G_village hx hb hT hown hK hP w_188 dX8_ahead_12 ?_
    refine lv_iload_n hx hb dX8_ahead_15 rfl (lv_at hl 2 rfl) ?_
    obtain ⟨r16, hc16, h⟩ := Option.bind_eq_some_iff.mp h
    refine rcV (As := [.int a2]) (rest := []) ⟨hx, hb, hml, hown, hts⟩ (c_X7_isStuck l X gi gl ga vS vF sN sF a2 hc16) ⟨w_375, w_353, w_354, w_53, w_355⟩ hd_X7_isStuck rfl rfl ⟨(Nat.le_of_ble_eq_true rfl), (Nat.le_of_ble_eq_true rfl)⟩ ⟨Nat.zero_le _, Nat.zero_le _⟩ gPre_blind (va_recv hK hP (ci := 3) rfl (cG_v (by decide : 0 < 4))) (gPre_call hP hK hN hZ hS) rfl rfl hl.1 (Nat.le_of_ble_eq_true rfl) dX8_ahead_16 ?_
    refine lv_if_eq (tgt := 27) hx hb dX8_ahead_19 (by decide) (fun c19 => ?_) (fun c19 => ?_)
    · replace h := if_t c19 h
      refine lv_iconst (v := -1) hx hb dX8_ahead_27 (by decide) ?_
      cases h
      exact W.iret hx hb hr (fun t ht _ => ⟨rfl, by rw [ht]; exact hP, hS.F ht⟩) hS.2.2 dX8_ahead_28
    · replace h := if_f c19 h
      refine lv_iload_n hx hb dX8_ahead_22 rfl (lv_at hl 1 rfl) ?_
      refine lv_iload_n hx hb dX8_ahead_23 rfl (lv_at hl 2 rfl) ?_
      refine lv_icmp_ne (tgt := 29) hx hb dX8_ahead_24 (by decide) (fun c24 => ?_) (fun c24 => ?_)
      · replace h := if_f c24 h
        refine lv_aload_n hx hb dX8_ahead_29 rfl (lv_at hl 0 rfl) ?_
        refine rg_G_lines hx hb hT hown hK hP w_191 dX8_ahead_30 ?_
        refine lv_aload_n hx hb dX8_ahead_33 rfl (lv_at hl 0 rfl) ?_
        refine rg_G_village hx hb hT hown hK hP w_188 dX8_ahead_34 ?_
        obtain ⟨gi_37, ga_37, hc37, h⟩ := bd2_e h
        refine wcV (As := [.ref (xAV X (0) 0)]) (rest := []) ⟨hx, hb, hml, hown, hts⟩ (c_X3_look l X gi gl ga vS vF sN sF hc37) ⟨w_619, w_620, w_621, w_55, w_622⟩ hd_X3_look rfl rfl ⟨(Nat.le_of_ble_eq_true rfl), (Nat.le_of_ble_eq_true rfl)⟩ ⟨Nat.zero_le _, Nat.zero_le _⟩ gPre_blind (va_recv hK hP (ci := 1) rfl cG_b5) (gPre_call hP hK hN hZ hS) hS (fun _ h => h) rfl rfl hl.1 (Nat.le_of_ble_eq_true rfl) dX8_ahead_37 (fun H locs hP _ hS => ?_)
        have hP : va_P X.1 vwCl (cG X gi_37 gl ga_37 vS vF sN sF) H := hP
        refine W.eq (g2 := F0 m 40 ls []) rfl ?_
        refine lv_aload_n hx hb dX8_ahead_40 rfl (lv_at hl 0 rfl) ?_
        refine lv_aload_n hx hb dX8_ahead_41 rfl (lv_at hl 0 rfl) ?_
        refine rg_G_lines hx hb hT hown hK hP w_191 dX8_ahead_42 ?_
        refine lv_iload_n hx hb dX8_ahead_45 rfl (lv_at hl 1 rfl) ?_
        refine lv_iload_n hx hb dX8_ahead_46 rfl (lv_at hl 2 rfl) ?_
        obtain ⟨r47, hc47, h⟩ := Option.bind_eq_some_iff.mp h
        refine rcV (As := [.int a1, .int a2]) (rest := [.ref (xA X 0)]) ⟨hx, hb, hml, hown, hts⟩ (c_X3_withFirst l X gi_37 gl ga_37 vS vF sN sF a1 a2 hc47) ⟨w_661, w_662, w_663, w_55, w_664⟩ hd_X3_withFirst rfl rfl ⟨(Nat.le_of_ble_eq_true rfl), (Nat.le_of_ble_eq_true rfl)⟩ ⟨Nat.zero_le _, Nat.zero_le _⟩ gPre_blind (va_recv hK hP (ci := 1) rfl cG_b5) (gPre_call hP hK hN hZ hS) rfl rfl hl.1 (Nat.le_of_ble_eq_true rfl) dX8_ahead_47 ?_
        refine lv_i2l hx hb dX8_ahead_50 rfl ?_
        refine lv_aload_n hx hb dX8_ahead_51 rfl (lv_at hl 0 rfl) ?_
        refine rg_G_lines hx hb hT hown hK hP w_191 dX8_ahead_52 ?_
        obtain ⟨r55, hc55, h⟩ := Option.bind_eq_some_iff.mp h
        refine rcV (As := []) (rest := [.long r47.toInt64, .ref (xA X 0)]) ⟨hx, hb, hml, hown, hts⟩ (c_X3_all l X gi_37 gl ga_37 vS vF sN sF hc55) ⟨w_633, w_634, w_635, w_55, w_636⟩ hd_X3_all rfl rfl ⟨(Nat.le_of_ble_eq_true rfl), (Nat.le_of_ble_eq_true rfl)⟩ ⟨Nat.zero_le _, Nat.zero_le _⟩ gPre_blind (va_recv hK hP (ci := 1) rfl cG_b5) (gPre_call hP hK hN hZ hS) rfl rfl hl.1 (Nat.le_of_ble_eq_true rfl) dX8_ahead_55 ?_
        refine lv_i2l hx hb dX8_ahead_58 rfl ?_
        obtain ⟨gl_59, hc59, h⟩ := Option.bind_eq_some_iff.mp h
        refine wcV (As := [.long r47.toInt64, .long r55.toInt64]) (rest := []) ⟨hx, hb, hml, hown, hts⟩ (c_X8_tellFraction l X gi_37 gl ga_37 vS vF sN sF r47.toInt64 r55.toInt64 hc59) ⟨w_637, w_639, w_6, w_52, w_640⟩ hd_X8_tellFraction rfl rfl ⟨(Nat.le_of_ble_eq_true rfl), (Nat.le_of_ble_eq_true rfl)⟩ ⟨Nat.zero_le _, Nat.zero_le _⟩ gPre_blind (va_recv hK hP (ci := 4) rfl cG_b0) (gPre_call hP hK hN hZ hS) hS (fun _ h => h) rfl rfl hl.1 (Nat.le_of_ble_eq_true rfl) dX8_ahead_59 (fun H locs hP _ hS => ?_)
        have hP : va_P X.1 vwCl (cG X gi_37 gl_59 ga_37 vS vF sN sF) H := hP
        refine W.eq (g2 := F0 m 62 ls []) rfl ?_
        refine lv_iconst (v := 1) hx hb dX8_ahead_62 (by decide) ?_
        cases h
        exact W.iret hx hb hr (fun t ht _ => ⟨rfl, by rw [ht]; exact hP, hS.F ht⟩) hS.2.2 dX8_ahead_63
      · replace h := if_t c24 h
        refine lv_iconst (v := -1) hx hb dX8_ahead_27 (by decide) ?_
        cases h
        exact W.iret hx hb hr (fun t ht _ => ⟨rfl, by rw [ht]; exact hP, hS.F ht⟩) hS.2.2 dX8_ahead_28
set_option maxRecDepth 100000 in
set_option maxHeartbeats 4000000 in
theorem c_X8_nth (l : Launch) (X : gX) (gi : Nat → Int32) (gl : Nat → Int64) (ga : Nat → Nat → Int32) (vS : Nat → Nat → Int32) (vF : Nat → Nat → Nat → Int32) (sN : Nat → Int32) (sF : Nat → Nat → Int32) (a1 : Int32) (a2 : Int32) {o0 : Int32} {o_gi : Nat → Int32} {o_ga : Nat → Nat → Int32} {o_sN : Nat → Int32} {o_sF : Nat → Nat → Int32} (h : X8_nth vS vF a1 a2 gi ga sN sF = some (o0, o_gi, o_ga, o_sN, o_sF)) : Met l yX8_nth (Cond.code yX8_nth cX8_nth 3 (some .int) :: gT) { frames := 3, cells := 0, slots := 0, locals := 83 } (va_Pc [.ref (xA X 0), .int a1, .int a2] (gPre X gi gl ga vS vF sN sF)) (wQ (some (.int o0)) (fun H => va_P X.1 vwCl (cG X o_gi gl o_ga vS vF o_sN o_sF) H) (gA X)) 0 0 (gA X) := by
  refine Met.ofW (cc := cX8_nth) (maxL := 3) (ret := (some .int)) (by decide) rfl ?_
  intro p e s m args below meth c s₁ B hml hv
  obtain ⟨rfl, hP, hK, hN, hZ⟩ := hv
  have hx := B.exec
  have hb := B.bytes
  have hr := B.returns
  have hts := atoms_spec (ws := (Cond.code yX8_nth cX8_nth 3 (some .int) :: gT)) B.pre
  have hT : ∀ w ∈ gT, w.before _ s = true := fun w hw => hts w (List.mem_cons_of_mem _ hw)
  have hown : s.vm.findClass RX8 = some m.cls := findClass_of_methodNamed B.named
  have hlocks := B.notSynchronized
  have hS : va_S (gA X) s.heap s.heap [] := va_S.rf
  have hl := lv_entry ([.ref (xA X 0), .int a1, .int a2]) (n := 3) (Nat.le_of_ble_eq_true rfl)
  rw [lg_entry_eq]
  generalize (lg_sl ([.ref (xA X 0), .int a1, .int a2]) ++ List.replicate (3 - (lg_sl ([.ref (xA X 0), .int a1, .int a2])).length) Slot.unset).toArray = ls at hl ⊢
  have hl : lv_has ls 3 [(0, .ref (xA X 0)), (1, .int a1), (2, .int a2)] := hl
  rw [X8_nth] at h
  refine lv_iload_n hx hb dX8_nth_0 rfl (lv_at hl 1 rfl) ?_
  refine lv_if_lt (tgt := 11) hx hb dX8_nth_1 (by decide) (fun c1 => ?_) (fun c1 => ?_)
  · replace h := if_t c1 h
    refine lv_iconst (v := -1) hx hb dX8_nth_11 (by decide) ?_
    cases h
    exact W.iret hx hb hr (fun t ht _ => ⟨rfl, by rw [ht]; exact hP, hS.F ht⟩) hS.2.2 dX8_nth_12
  · replace h := if_f c1 h
    refine lv_iload_n hx hb dX8_nth_4 rfl (lv_at hl 2 rfl) ?_
    obtain ⟨r5, hc5, h⟩ := Option.bind_eq_some_iff.mp h
    refine rcS (As := [.int a2]) (rest := []) ⟨hx, hb, hml, hown, hts⟩ (c_X8_isRow l a2 hc5) ⟨w_224, w_225, w_52, w_226⟩ hd_X8_isRow rfl rfl ⟨(Nat.le_of_ble_eq_true rfl), (Nat.le_of_ble_eq_true rfl)⟩ ⟨Nat.zero_le _, Nat.zero_le _⟩ (fun _ _ _ _ h => h) (fun _ _ _ => trivial) rfl rfl hl.1 (Nat.le_of_ble_eq_true rfl) dX8_nth_5 ?_
    refine lv_if_ne (tgt := 13) hx hb dX8_nth_8 (by decide) (fun c8 => ?_) (fun c8 => ?_)
    · replace h := if_f c8 h
      refine lv_aload_n hx hb dX8_nth_13 rfl (lv_at hl 0 rfl) ?_
      refine rg_G_lines hx hb hT hown hK hP w_191 dX8_nth_14 ?_
      refine lv_aload_n hx hb dX8_nth_17 rfl (lv_at hl 0 rfl) ?_
      refine rg_G_village hx hb hT hown hK hP w_188 dX8_nth_18 ?_
      obtain ⟨gi_21, ga_21, hc21, h⟩ := bd2_e h
      refine wcV (As := [.ref (xAV X (0) 0)]) (rest := []) ⟨hx, hb, hml, hown, hts⟩ (c_X3_look l X gi gl ga vS vF sN sF hc21) ⟨w_619, w_620, w_621, w_55, w_622⟩ hd_X3_look rfl rfl ⟨(Nat.le_of_ble_eq_true rfl), (Nat.le_of_ble_eq_true rfl)⟩ ⟨Nat.zero_le _, Nat.zero_le _⟩ gPre_blind (va_recv hK hP (ci := 1) rfl cG_b5) (gPre_call hP hK hN hZ hS) hS (fun _ h => h) rfl rfl hl.1 (Nat.le_of_ble_eq_true rfl) dX8_nth_21 (fun H locs hP _ hS => ?_)
      have hP : va_P X.1 vwCl (cG X gi_21 gl ga_21 vS vF sN sF) H := hP
      refine W.eq (g2 := F0 m 24 ls []) rfl ?_
      refine lv_iload_n hx hb dX8_nth_24 rfl (lv_at hl 1 rfl) ?_
      refine lv_aload_n hx hb dX8_nth_25 rfl (lv_at hl 0 rfl) ?_
      refine rg_G_lines hx hb hT hown hK hP w_191 dX8_nth_26 ?_
      obtain ⟨r29, hc29, h⟩ := Option.bind_eq_some_iff.mp h
      refine rcV (As := []) (rest := [.int a1]) ⟨hx, hb, hml, hown, hts⟩ (c_X3_all l X gi_21 gl ga_21 vS vF sN sF hc29) ⟨w_633, w_634, w_635, w_55, w_636⟩ hd_X3_all rfl rfl ⟨(Nat.le_of_ble_eq_true rfl), (Nat.le_of_ble_eq_true rfl)⟩ ⟨Nat.zero_le _, Nat.zero_le _⟩ gPre_blind (va_recv hK hP (ci := 1) rfl cG_b5) (gPre_call hP hK hN hZ hS) rfl rfl hl.1 (Nat.le_of_ble_eq_true rfl) dX8_nth_29 ?_
      refine lv_icmp_lt (tgt := 41) hx hb dX8_nth_32 (by decide) (fun c32 => ?_) (fun c32 => ?_)
      · replace h := if_t c32 h
        refine lv_aload_n hx hb dX8_nth_41 rfl (lv_at hl 0 rfl) ?_
        refine rg_G_lines hx hb hT hown hK hP w_191 dX8_nth_42 ?_
        refine lv_iload_n hx hb dX8_nth_45 rfl (lv_at hl 1 rfl) ?_
        refine lv_aload_n hx hb dX8_nth_46 rfl (lv_at hl 0 rfl) ?_
        refine rg_G_rows hx hb hT hown hK hP w_186 dX8_nth_47 ?_
        refine lv_iload_n hx hb dX8_nth_50 rfl (lv_at hl 2 rfl) ?_
        obtain ⟨hi51, h⟩ := gd_e h
        refine rr_rows hx hb hK hP (ib_in hi51) dX8_nth_51 ?_
        obtain ⟨sN_52, sF_52, hc52, h⟩ := bd2_e h
        refine wcV (As := [.int a1, .ref (xAS X a2.toNatClampNeg 0)]) (rest := []) ⟨hx, hb, hml, hown, hts⟩ (c_X3_write l X gi_21 gl ga_21 vS vF sN sF a2.toNatClampNeg (gj6 (ib_in hi51)) a1 hc52) ⟨w_669, w_670, w_671, w_55, w_672⟩ hd_X3_write rfl rfl ⟨(Nat.le_of_ble_eq_true rfl), (Nat.le_of_ble_eq_true rfl)⟩ ⟨Nat.zero_le _, Nat.zero_le _⟩ gPre_blind (va_recv hK hP (ci := 1) rfl cG_b5) (gPre_call hP hK hN hZ hS) hS (fun _ h => h) rfl rfl hl.1 (Nat.le_of_ble_eq_true rfl) dX8_nth_52 (fun H locs hP _ hS => ?_)
        have hP : va_P X.1 vwCl (cG X gi_21 gl ga_21 vS vF sN_52 sF_52) H := hP
        refine W.eq (g2 := F0 m 55 ls []) rfl ?_
        refine lv_iconst (v := 1) hx hb dX8_nth_55 (by decide) ?_
        cases h
        exact W.iret hx hb hr (fun t ht _ => ⟨rfl, by rw [ht]; exact hP, hS.F ht⟩) hS.2.2 dX8_nth_56
      · replace h := if_f c32 h
        refine lv_aload_n hx hb dX8_nth_35 rfl (lv_at hl 0 rfl) ?_
        refine lv_iconst (v := 4) hx hb dX8_nth_36 (by decide) ?_
        obtain ⟨r37, gi_37, ga_37, hc37, h⟩ := bd3_e h
        refine wcV (As := [.int (4 : Int32)]) (rest := []) ⟨hx, hb, hml, hown, hts⟩ (c_X8_found l X gi_21 gl ga_21 vS vF sN sF (4 : Int32) hc37) ⟨w_227, w_229, w_0, w_52, w_230⟩ hd_X8_found rfl rfl ⟨(Nat.le_of_ble_eq_true rfl), (Nat.le_of_ble_eq_true rfl)⟩ ⟨Nat.zero_le _, Nat.zero_le _⟩ gPre_blind (va_recv hK hP (ci := 4) rfl cG_b0) (gPre_call hP hK hN hZ hS) hS (fun _ h => h) rfl rfl hl.1 (Nat.le_of_ble_eq_true rfl) dX8_nth_37 (fun H locs hP _ hS => ?_)
        have hP : va_P X.1 vwCl (cG X gi_37 gl ga_37 vS vF sN sF) H := hP
        refine W.eq (g2 := F0 m 40 ls [.int r37]) rfl ?_
        cases h
        exact W.iret hx hb hr (fun t ht _ => ⟨rfl, by rw [ht]; exact hP, hS.F ht⟩) hS.2.2 dX8_nth_40
    · replace h := if_t c8 h
      refine lv_iconst (v := -1) hx hb dX8_nth_11 (by decide) ?_
      cases h
      exact W.iret hx hb hr (fun t ht _ => ⟨rfl, by rw [ht]; exact hP, hS.F ht⟩) hS.2.2 dX8_nth_12
set_option maxRecDepth 100000 in
set_option maxHeartbeats 4000000 in
theorem c_X8_gold (l : Launch) (X : gX) (gi : Nat → Int32) (gl : Nat → Int64) (ga : Nat → Nat → Int32) (vS : Nat → Nat → Int32) (vF : Nat → Nat → Nat → Int32) (sN : Nat → Int32) (sF : Nat → Nat → Int32) (a1 : Int32) (a2 : Int32) {o0 : Int32} {o_sN : Nat → Int32} {o_sF : Nat → Nat → Int32} (h : X8_gold vS vF a1 a2 sN sF = some (o0, o_sN, o_sF)) : Met l yX8_gold (Cond.code yX8_gold cX8_gold 4 (some .int) :: gT) { frames := 4, cells := 0, slots := 0, locals := 96 } (va_Pc [.ref (xA X 0), .int a1, .int a2] (gPre X gi gl ga vS vF sN sF)) (wQ (some (.int o0)) (fun H => va_P X.1 vwCl (cG X gi gl ga vS vF o_sN o_sF) H) (gA X)) 0 0 (gA X) := by
  refine Met.ofW (cc := cX8_gold) (maxL := 4) (ret := (some .int)) (by decide) rfl ?_
  intro p e s m args below meth c s₁ B hml hv
  obtain ⟨rfl, hP, hK, hN, hZ⟩ := hv
  have hx := B.exec
  have hb := B.bytes
  have hr := B.returns
  have hts := atoms_spec (ws := (Cond.code yX8_gold cX8_gold 4 (some .int) :: gT)) B.pre
  have hT : ∀ w ∈ gT, w.before _ s = true := fun w hw => hts w (List.mem_cons_of_mem _ hw)
  have hown : s.vm.findClass RX8 = some m.cls := findClass_of_methodNamed B.named
  have hlocks := B.notSynchronized
  have hS : va_S (gA X) s.heap s.heap [] := va_S.rf
  have hl := lv_entry ([.ref (xA X 0), .int a1, .int a2]) (n := 4) (Nat.le_of_ble_eq_true rfl)
  rw [lg_entry_eq]
  generalize (lg_sl ([.ref (xA X 0), .int a1, .int a2]) ++ List.replicate (4 - (lg_sl ([.ref (xA X 0), .int a1, .int a2])).length) Slot.unset).toArray = ls at hl ⊢
  have hl : lv_has ls 4 [(0, .ref (xA X 0)), (1, .int a1), (2, .int a2)] := hl
  have hL68 : ∀ (n68 : Nat) (v2 : Int32) (v3 : Int32) (sN : Nat → Int32) (sF : Nat → Nat → Int32) (H : Heap) (locs : List Loc) (ls : Array Slot), lv_has ls 4 [(0, .ref (xA X 0)), (2, .int v2), (3, .int v3)] → va_P X.1 vwCl (cG X gi gl ga vS vF sN sF) H → va_S (gA X) s.heap H locs → X8_gold_68 vS vF n68 v2 v3 sN sF = some (o0, o_sN, o_sF) → W p l e (headSpec (Cond.code yX8_gold cX8_gold 4 (some .int) :: gT) { frames := 4, cells := 0, slots := 0, locals := 96 }).room s m [.ref (xA X 0), .int a1, .int a2].toArray below meth c H locs 0 0 (MQ below (wQ (some (.int o0)) (fun H => va_P X.1 vwCl (cG X gi gl ga vS vF o_sN o_sF) H) (gA X)) [.ref (xA X 0), .int a1, .int a2].toArray s 0 0 (gA X)) (F0 m 68 ls []) := by
    intro n68
    induction n68 with
    | zero =>
      intro v2 v3 sN sF H locs ls hl hP hS h
      rw [X8_gold_68] at h
      cases h
    | succ n68 ih68 =>
      intro v2 v3 sN sF H locs ls hl hP hS h
      rw [X8_gold_68] at h
      refine lv_iload_n hx hb dX8_gold_68 rfl (lv_at hl 2 rfl) ?_
      refine lv_bipush (v := 7) hx hb dX8_gold_69 (by decide) ?_
      refine lv_icmp_gt (tgt := 94) hx hb dX8_gold_71 (by decide) (fun c71 => ?_) (fun c71 => ?_)
      · replace h := if_t c71 h
        refine lv_iconst (v := 0) hx hb dX8_gold_94 (by decide) ?_
        cases h
        exact W.iret hx hb hr (fun t ht _ => ⟨rfl, by rw [ht]; exact hP, hS.F ht⟩) hS.2.2 dX8_gold_95
      · replace h := if_f c71 h
        refine lv_aload_n hx hb dX8_gold_74 rfl (lv_at hl 0 rfl) ?_
        refine rg_G_village hx hb hT hown hK hP w_188 dX8_gold_75 ?_
        refine lv_iload_n hx hb dX8_gold_78 rfl (lv_at hl 2 rfl) ?_
        refine lv_aload_n hx hb dX8_gold_79 rfl (lv_at hl 0 rfl) ?_
        refine rg_G_rows hx hb hT hown hK hP w_186 dX8_gold_80 ?_
        refine lv_iload_n hx hb dX8_gold_83 rfl (lv_at hl 1 rfl) ?_
        obtain ⟨hi84, h⟩ := gd_e h
        refine rr_rows hx hb hK hP (ib_in hi84) dX8_gold_84 ?_
        obtain ⟨sF_85, hc85, h⟩ := Option.bind_eq_some_iff.mp h
        refine wcS (As := [.ref (xAV X (0) 0), .int v3, .ref (xAS X v2.toNatClampNeg 0)]) (rest := []) ⟨hx, hb, hml, hown, hts⟩ (c_X1_dealAtDepth l X gi gl ga vS vF sN sF v2.toNatClampNeg (gj6 (ib_in hi84)) v3 hc85) ⟨w_685, w_686, w_65, w_687⟩ hd_X1_dealAtDepth rfl rfl ⟨(Nat.le_of_ble_eq_true rfl), (Nat.le_of_ble_eq_true rfl)⟩ ⟨Nat.zero_le _, Nat.zero_le _⟩ gPre_blind (gPre_call hP hK hN hZ hS) hS (fun _ h => h) rfl rfl hl.1 (Nat.le_of_ble_eq_true rfl) dX8_gold_85 (fun H locs hP _ hS => ?_)
        have hP : va_P X.1 vwCl (cG X gi gl ga vS vF sN sF_85) H := hP
        refine W.eq (g2 := F0 m 88 ls []) rfl ?_
        refine lv_iinc (v := (v3 + (1 : Int32))) (lv' := [(3, .int (v3 + (1 : Int32))), (0, .ref (xA X 0)), (2, .int v2)]) hx hb dX8_gold_88 hl (k := 2) rfl rfl (by decide) rfl (fun ls hl => ?_)
        refine lv_goto (tgt := 68) hx hb dX8_gold_91 (by decide) ?_
        exact ih68 v2 (v3 + (1 : Int32)) sN sF_85 _ _ ls (lv_sub hl [1, 2, 0] rfl) hP hS h
  rw [X8_gold] at h
  refine lv_iload_n hx hb dX8_gold_0 rfl (lv_at hl 1 rfl) ?_
  refine lv_if_lt (tgt := 17) hx hb dX8_gold_1 (by decide) (fun c1 => ?_) (fun c1 => ?_)
  · replace h := if_t c1 h
    refine lv_iconst (v := -1) hx hb dX8_gold_17 (by decide) ?_
    cases h
    exact W.iret hx hb hr (fun t ht _ => ⟨rfl, by rw [ht]; exact hP, hS.F ht⟩) hS.2.2 dX8_gold_18
  · replace h := if_f c1 h
    refine lv_iload_n hx hb dX8_gold_4 rfl (lv_at hl 1 rfl) ?_
    refine lv_bipush (v := 99) hx hb dX8_gold_5 (by decide) ?_
    refine lv_icmp_gt (tgt := 17) hx hb dX8_gold_7 (by decide) (fun c7 => ?_) (fun c7 => ?_)
    · replace h := if_t c7 h
      refine lv_iconst (v := -1) hx hb dX8_gold_17 (by decide) ?_
      cases h
      exact W.iret hx hb hr (fun t ht _ => ⟨rfl, by rw [ht]; exact hP, hS.F ht⟩) hS.2.2 dX8_gold_18
    · replace h := if_f c7 h
      refine lv_iload_n hx hb dX8_gold_10 rfl (lv_at hl 2 rfl) ?_
      obtain ⟨r11, hc11, h⟩ := Option.bind_eq_some_iff.mp h
      refine rcS (As := [.int a2]) (rest := []) ⟨hx, hb, hml, hown, hts⟩ (c_X8_isRow l a2 hc11) ⟨w_224, w_225, w_52, w_226⟩ hd_X8_isRow rfl rfl ⟨(Nat.le_of_ble_eq_true rfl), (Nat.le_of_ble_eq_true rfl)⟩ ⟨Nat.zero_le _, Nat.zero_le _⟩ (fun _ _ _ _ h => h) (fun _ _ _ => trivial) rfl rfl hl.1 (Nat.le_of_ble_eq_true rfl) dX8_gold_11 ?_
      refine lv_if_ne (tgt := 19) hx hb dX8_gold_14 (by decide) (fun c14 => ?_) (fun c14 => ?_)
      · replace h := if_f c14 h
        refine lv_aload_n hx hb dX8_gold_19 rfl (lv_at hl 0 rfl) ?_
        refine rg_G_rows hx hb hT hown hK hP w_186 dX8_gold_20 ?_
        refine lv_iload_n hx hb dX8_gold_23 rfl (lv_at hl 2 rfl) ?_
        obtain ⟨hi24, h⟩ := gd_e h
        refine rr_rows hx hb hK hP (ib_in hi24) dX8_gold_24 ?_
        refine lv_aload_n hx hb dX8_gold_25 rfl (lv_at hl 0 rfl) ?_
        refine rg_G_village hx hb hT hown hK hP w_188 dX8_gold_26 ?_
        refine rg_V_people (q := (0)) hx hb hT hown hK hP (by decide : 0 < 4) w_87 dX8_gold_29 ?_
        refine lv_iconst (v := 0) hx hb dX8_gold_32 (by decide) ?_
        obtain ⟨sN_33, sF_33, hc33, h⟩ := bd2_e h
        refine wcV (As := [.int (vS (0) 0), .int (0 : Int32)]) (rest := []) ⟨hx, hb, hml, hown, hts⟩ (c_X6_layOut l X gi gl ga vS vF sN sF a2.toNatClampNeg (gj6 (ib_in hi24)) (vS (0) 0) (0 : Int32) hc33) ⟨w_231, w_232, w_233, w_56, w_234⟩ hd_X6_layOut rfl rfl ⟨(Nat.le_of_ble_eq_true rfl), (Nat.le_of_ble_eq_true rfl)⟩ ⟨Nat.zero_le _, Nat.zero_le _⟩ gPre_blind (va_recv hK hP (ci := 2) rfl (cG_s (gj6 (ib_in hi24)))) (gPre_call hP hK hN hZ hS) hS (fun _ h => h) rfl rfl hl.1 (Nat.le_of_ble_eq_true rfl) dX8_gold_33 (fun H locs hP _ hS => ?_)
        have hP : va_P X.1 vwCl (cG X gi gl ga vS vF sN_33 sF_33) H := hP
        refine W.eq (g2 := F0 m 36 ls []) rfl ?_
        refine lv_aload_n hx hb dX8_gold_36 rfl (lv_at hl 0 rfl) ?_
        refine rg_G_village hx hb hT hown hK hP w_188 dX8_gold_37 ?_
        refine lv_bipush (v := 9) hx hb dX8_gold_40 (by decide) ?_
        obtain ⟨r42, hc42, h⟩ := Option.bind_eq_some_iff.mp h
        refine rcV (As := [.int (9 : Int32)]) (rest := []) ⟨hx, hb, hml, hown, hts⟩ (c_X7_hangers l X gi gl ga vS vF sN_33 sF_33 (9 : Int32) hc42) ⟨w_494, w_400, w_401, w_53, w_402⟩ hd_X7_hangers rfl rfl ⟨(Nat.le_of_ble_eq_true rfl), (Nat.le_of_ble_eq_true rfl)⟩ ⟨Nat.zero_le _, Nat.zero_le _⟩ gPre_blind (va_recv hK hP (ci := 3) rfl (cG_v (by decide : 0 < 4))) (gPre_call hP hK hN hZ hS) rfl rfl hl.1 (Nat.le_of_ble_eq_true rfl) dX8_gold_42 ?_
        refine lv_if_ne (tgt := 50) hx hb dX8_gold_45 (by decide) (fun c45 => ?_) (fun c45 => ?_)
        · replace h := if_f c45 h
          refine lv_aload_n hx hb dX8_gold_50 rfl (lv_at hl 0 rfl) ?_
          refine rg_G_village hx hb hT hown hK hP w_188 dX8_gold_51 ?_
          refine lv_bipush (v := 9) hx hb dX8_gold_54 (by decide) ?_
          refine lv_iload_n hx hb dX8_gold_56 rfl (lv_at hl 1 rfl) ?_
          refine lv_aload_n hx hb dX8_gold_57 rfl (lv_at hl 0 rfl) ?_
          refine rg_G_rows hx hb hT hown hK hP w_186 dX8_gold_58 ?_
          refine lv_iload_n hx hb dX8_gold_61 rfl (lv_at hl 2 rfl) ?_
          obtain ⟨hi62, h⟩ := gd_e h
          refine rr_rows hx hb hK hP (ib_in hi62) dX8_gold_62 ?_
          obtain ⟨sF_63, hc63, h⟩ := Option.bind_eq_some_iff.mp h
          refine wcS (As := [.ref (xAV X (0) 0), .int (9 : Int32), .int a1, .ref (xAS X a2.toNatClampNeg 0)]) (rest := []) ⟨hx, hb, hml, hown, hts⟩ (c_X1_deal l X gi gl ga vS vF sN_33 sF_33 a2.toNatClampNeg (gj6 (ib_in hi62)) (9 : Int32) a1 hc63) ⟨w_679, w_680, w_65, w_681⟩ hd_X1_deal rfl rfl ⟨(Nat.le_of_ble_eq_true rfl), (Nat.le_of_ble_eq_true rfl)⟩ ⟨Nat.zero_le _, Nat.zero_le _⟩ gPre_blind (gPre_call hP hK hN hZ hS) hS (fun _ h => h) rfl rfl hl.1 (Nat.le_of_ble_eq_true rfl) dX8_gold_63 (fun H locs hP _ hS => ?_)
          have hP : va_P X.1 vwCl (cG X gi gl ga vS vF sN_33 sF_63) H := hP
          refine W.eq (g2 := F0 m 66 ls []) rfl ?_
          refine lv_iconst (v := 1) hx hb dX8_gold_66 (by decide) ?_
          refine lv_istore_n (lv' := [(3, .int (1 : Int32)), (0, .ref (xA X 0)), (1, .int a1), (2, .int a2)]) hx hb dX8_gold_67 rfl hl (by decide) rfl (fun ls hl => ?_)
          exact hL68 500 a2 (1 : Int32) sN_33 sF_63 _ _ ls (lv_sub hl [1, 3, 0] rfl) hP hS h
        · replace h := if_t c45 h
          refine lv_iload_n hx hb dX8_gold_48 rfl (lv_at hl 1 rfl) ?_
          cases h
          exact W.iret hx hb hr (fun t ht _ => ⟨rfl, by rw [ht]; exact hP, hS.F ht⟩) hS.2.2 dX8_gold_49
      · replace h := if_t c14 h
        refine lv_iconst (v := -1) hx hb dX8_gold_17 (by decide) ?_
        cases h
        exact W.iret hx hb hr (fun t ht _ => ⟨rfl, by rw [ht]; exact hP, hS.F ht⟩) hS.2.2 dX8_gold_18
set_option maxRecDepth 100000 in
set_option maxHeartbeats 4000000 in
theorem c_X8_tastes (l : Launch) (X : gX) (gi : Nat → Int32) (gl : Nat → Int64) (ga : Nat → Nat → Int32) (vS : Nat → Nat → Int32) (vF : Nat → Nat → Nat → Int32) (sN : Nat → Int32) (sF : Nat → Nat → Int32) (a1 : Int32) {o0 : Int32} {o_gi : Nat → Int32} {o_ga : Nat → Nat → Int32} (h : X8_tastes sN sF a1 gi ga = some (o0, o_gi, o_ga)) : Met l yX8_tastes (Cond.code yX8_tastes cX8_tastes 2 (some .int) :: gT) { frames := 2, cells := 0, slots := 0, locals := 47 } (va_Pc [.ref (xA X 0), .int a1] (gPre X gi gl ga vS vF sN sF)) (wQ (some (.int o0)) (fun H => va_P X.1 vwCl (cG X o_gi gl o_ga vS vF sN sF) H) (gA X)) 0 0 (gA X) := by
  refine Met.ofW (cc := cX8_tastes) (maxL := 2) (ret := (some .int)) (by decide) rfl ?_
  intro p e s m args below meth c s₁ B hml hv
  obtain ⟨rfl, hP, hK, hN, hZ⟩ := hv
  have hx := B.exec
  have hb := B.bytes
  have hr := B.returns
  have hts := atoms_spec (ws := (Cond.code yX8_tastes cX8_tastes 2 (some .int) :: gT)) B.pre
  have hT : ∀ w ∈ gT, w.before _ s = true := fun w hw => hts w (List.mem_cons_of_mem _ hw)
  have hown : s.vm.findClass RX8 = some m.cls := findClass_of_methodNamed B.named
  have hlocks := B.notSynchronized
  have hS : va_S (gA X) s.heap s.heap [] := va_S.rf
  have hl := lv_entry ([.ref (xA X 0), .int a1]) (n := 2) (Nat.le_of_ble_eq_true rfl)
  rw [lg_entry_eq]
  generalize (lg_sl ([.ref (xA X 0), .int a1]) ++ List.replicate (2 - (lg_sl ([.ref (xA X 0), .int a1])).length) Slot.unset).toArray = ls at hl ⊢
  have hl : lv_has ls 2 [(0, .ref (xA X 0)), (1, .int a1)] := hl
  rw [X8_tastes] at h
  refine lv_aload_n hx hb dX8_tastes_0 rfl (lv_at hl 0 rfl) ?_
  refine lv_iload_n hx hb dX8_tastes_1 rfl (lv_at hl 1 rfl) ?_
  refine lv_iconst (v := 0) hx hb dX8_tastes_2 (by decide) ?_
  obtain ⟨r3, gi_3, ga_3, hc3, h⟩ := bd3_e h
  refine wcV (As := [.int a1, .int (0 : Int32)]) (rest := []) ⟨hx, hb, hml, hown, hts⟩ (c_X8_tastesThatFit l X gi gl ga vS vF sN sF a1 (0 : Int32) hc3) ⟨w_694, w_696, w_8, w_52, w_697⟩ hd_X8_tastesThatFit rfl rfl ⟨(Nat.le_of_ble_eq_true rfl), (Nat.le_of_ble_eq_true rfl)⟩ ⟨Nat.zero_le _, Nat.zero_le _⟩ gPre_blind (va_recv hK hP (ci := 4) rfl cG_b0) (gPre_call hP hK hN hZ hS) hS (fun _ h => h) rfl rfl hl.1 (Nat.le_of_ble_eq_true rfl) dX8_tastes_3 (fun H locs hP _ hS => ?_)
  have hP : va_P X.1 vwCl (cG X gi_3 gl ga_3 vS vF sN sF) H := hP
  refine W.eq (g2 := F0 m 6 ls [.int r3]) rfl ?_
  cases h
  exact W.iret hx hb hr (fun t ht _ => ⟨rfl, by rw [ht]; exact hP, hS.F ht⟩) hS.2.2 dX8_tastes_6
set_option maxRecDepth 100000 in
set_option maxHeartbeats 4000000 in
theorem c_X8_sour (l : Launch) (X : gX) (gi : Nat → Int32) (gl : Nat → Int64) (ga : Nat → Nat → Int32) (vS : Nat → Nat → Int32) (vF : Nat → Nat → Nat → Int32) (sN : Nat → Int32) (sF : Nat → Nat → Int32) (a1 : Int32) {o0 : Int32} {o_gi : Nat → Int32} {o_ga : Nat → Nat → Int32} (h : X8_sour sN sF a1 gi ga = some (o0, o_gi, o_ga)) : Met l yX8_sour (Cond.code yX8_sour cX8_sour 2 (some .int) :: gT) { frames := 2, cells := 0, slots := 0, locals := 47 } (va_Pc [.ref (xA X 0), .int a1] (gPre X gi gl ga vS vF sN sF)) (wQ (some (.int o0)) (fun H => va_P X.1 vwCl (cG X o_gi gl o_ga vS vF sN sF) H) (gA X)) 0 0 (gA X) := by
  refine Met.ofW (cc := cX8_sour) (maxL := 2) (ret := (some .int)) (by decide) rfl ?_
  intro p e s m args below meth c s₁ B hml hv
  obtain ⟨rfl, hP, hK, hN, hZ⟩ := hv
  have hx := B.exec
  have hb := B.bytes
  have hr := B.returns
  have hts := atoms_spec (ws := (Cond.code yX8_sour cX8_sour 2 (some .int) :: gT)) B.pre
  have hT : ∀ w ∈ gT, w.before _ s = true := fun w hw => hts w (List.mem_cons_of_mem _ hw)
  have hown : s.vm.findClass RX8 = some m.cls := findClass_of_methodNamed B.named
  have hlocks := B.notSynchronized
  have hS : va_S (gA X) s.heap s.heap [] := va_S.rf
  have hl := lv_entry ([.ref (xA X 0), .int a1]) (n := 2) (Nat.le_of_ble_eq_true rfl)
  rw [lg_entry_eq]
  generalize (lg_sl ([.ref (xA X 0), .int a1]) ++ List.replicate (2 - (lg_sl ([.ref (xA X 0), .int a1])).length) Slot.unset).toArray = ls at hl ⊢
  have hl : lv_has ls 2 [(0, .ref (xA X 0)), (1, .int a1)] := hl
  rw [X8_sour] at h
  refine lv_aload_n hx hb dX8_sour_0 rfl (lv_at hl 0 rfl) ?_
  refine lv_iload_n hx hb dX8_sour_1 rfl (lv_at hl 1 rfl) ?_
  refine lv_iconst (v := 1) hx hb dX8_sour_2 (by decide) ?_
  obtain ⟨r3, gi_3, ga_3, hc3, h⟩ := bd3_e h
  refine wcV (As := [.int a1, .int (1 : Int32)]) (rest := []) ⟨hx, hb, hml, hown, hts⟩ (c_X8_tastesThatFit l X gi gl ga vS vF sN sF a1 (1 : Int32) hc3) ⟨w_694, w_696, w_8, w_52, w_697⟩ hd_X8_tastesThatFit rfl rfl ⟨(Nat.le_of_ble_eq_true rfl), (Nat.le_of_ble_eq_true rfl)⟩ ⟨Nat.zero_le _, Nat.zero_le _⟩ gPre_blind (va_recv hK hP (ci := 4) rfl cG_b0) (gPre_call hP hK hN hZ hS) hS (fun _ h => h) rfl rfl hl.1 (Nat.le_of_ble_eq_true rfl) dX8_sour_3 (fun H locs hP _ hS => ?_)
  have hP : va_P X.1 vwCl (cG X gi_3 gl ga_3 vS vF sN sF) H := hP
  refine W.eq (g2 := F0 m 6 ls [.int r3]) rfl ?_
  cases h
  exact W.iret hx hb hr (fun t ht _ => ⟨rfl, by rw [ht]; exact hP, hS.F ht⟩) hS.2.2 dX8_sour_6
set_option maxRecDepth 100000 in
set_option maxHeartbeats 4000000 in
theorem c_X8_lots (l : Launch) (X : gX) (gi : Nat → Int32) (gl : Nat → Int64) (ga : Nat → Nat → Int32) (vS : Nat → Nat → Int32) (vF : Nat → Nat → Nat → Int32) (sN : Nat → Int32) (sF : Nat → Nat → Int32) (a1 : Int32) (a2 : Int32) {o0 : Int32} {o_vS : Nat → Nat → Int32} {o_vF : Nat → Nat → Nat → Int32} (h : X8_lots a1 a2 vS vF = some (o0, o_vS, o_vF)) : Met l yX8_lots (Cond.code yX8_lots cX8_lots 7 (some .int) :: gT) { frames := 5, cells := 0, slots := 0, locals := 114 } (va_Pc [.ref (xA X 0), .int a1, .int a2] (gPre X gi gl ga vS vF sN sF)) (wQ (some (.int o0)) (fun H => va_P X.1 vwCl (cG X gi gl ga o_vS o_vF sN sF) H) (gA X)) 0 0 (gA X) := by
  refine Met.ofW (cc := cX8_lots) (maxL := 7) (ret := (some .int)) (by decide) rfl ?_
  intro p e s m args below meth c s₁ B hml hv
  obtain ⟨rfl, hP, hK, hN, hZ⟩ := hv
  have hx := B.exec
  have hb := B.bytes
  have hr := B.returns
  have hts := atoms_spec (ws := (Cond.code yX8_lots cX8_lots 7 (some .int) :: gT)) B.pre
  have hT : ∀ w ∈ gT, w.before _ s = true := fun w hw => hts w (List.mem_cons_of_mem _ hw)
  have hown : s.vm.findClass RX8 = some m.cls := findClass_of_methodNamed B.named
  have hlocks := B.notSynchronized
  have hS : va_S (gA X) s.heap s.heap [] := va_S.rf
  have hl := lv_entry ([.ref (xA X 0), .int a1, .int a2]) (n := 7) (Nat.le_of_ble_eq_true rfl)
  rw [lg_entry_eq]
  generalize (lg_sl ([.ref (xA X 0), .int a1, .int a2]) ++ List.replicate (7 - (lg_sl ([.ref (xA X 0), .int a1, .int a2])).length) Slot.unset).toArray = ls at hl ⊢
  have hl : lv_has ls 7 [(0, .ref (xA X 0)), (1, .int a1), (2, .int a2)] := hl
  have hL63 : ∀ (n63 : Nat) (v1 : Int32) (v3 : Int64) (v5 : Int32) (vS : Nat → Nat → Int32) (vF : Nat → Nat → Nat → Int32) (H : Heap) (locs : List Loc) (ls : Array Slot), lv_has ls 7 [(0, .ref (xA X 0)), (1, .int v1), (3, .long v3), (5, .int v5)] → va_P X.1 vwCl (cG X gi gl ga vS vF sN sF) H → va_S (gA X) s.heap H locs → X8_lots_63 n63 v1 v3 v5 vS vF = some (o0, o_vS, o_vF) → W p l e (headSpec (Cond.code yX8_lots cX8_lots 7 (some .int) :: gT) { frames := 5, cells := 0, slots := 0, locals := 114 }).room s m [.ref (xA X 0), .int a1, .int a2].toArray below meth c H locs 0 0 (MQ below (wQ (some (.int o0)) (fun H => va_P X.1 vwCl (cG X gi gl ga o_vS o_vF sN sF) H) (gA X)) [.ref (xA X 0), .int a1, .int a2].toArray s 0 0 (gA X)) (F0 m 63 ls []) := by
    intro n63
    induction n63 with
    | zero =>
      intro v1 v3 v5 vS vF H locs ls hl hP hS h
      rw [X8_lots_63] at h
      cases h
    | succ n63 ih63 =>
      intro v1 v3 v5 vS vF H locs ls hl hP hS h
      rw [X8_lots_63] at h
      refine lv_iload hx hb dX8_lots_63 (lv_at hl 3 rfl) ?_
      refine lv_iload_n hx hb dX8_lots_65 rfl (lv_at hl 1 rfl) ?_
      refine lv_icmp_ge (tgt := 115) hx hb dX8_lots_66 (by decide) (fun c66 => ?_) (fun c66 => ?_)
      · replace h := if_t c66 h
        refine lv_iload_n hx hb dX8_lots_115 rfl (lv_at hl 1 rfl) ?_
        cases h
        exact W.iret hx hb hr (fun t ht _ => ⟨rfl, by rw [ht]; exact hP, hS.F ht⟩) hS.2.2 dX8_lots_116
      · replace h := if_f c66 h
        refine lv_aload_n hx hb dX8_lots_69 rfl (lv_at hl 0 rfl) ?_
        refine rg_G_village hx hb hT hown hK hP w_188 dX8_lots_70 ?_
        obtain ⟨r73, hc73, h⟩ := Option.bind_eq_some_iff.mp h
        refine rcV (As := []) (rest := []) ⟨hx, hb, hml, hown, hts⟩ (c_X7_touches l X gi gl ga vS vF sN sF hc73) ⟨w_591, w_592, w_593, w_53, w_594⟩ hd_X7_touches rfl rfl ⟨(Nat.le_of_ble_eq_true rfl), (Nat.le_of_ble_eq_true rfl)⟩ ⟨Nat.zero_le _, Nat.zero_le _⟩ gPre_blind (va_recv hK hP (ci := 3) rfl (cG_v (by decide : 0 < 4))) (gPre_call hP hK hN hZ hS) rfl rfl hl.1 (Nat.le_of_ble_eq_true rfl) dX8_lots_73 ?_
        refine lv_istore (lv' := [(6, .int r73), (0, .ref (xA X 0)), (1, .int v1), (3, .long v3), (5, .int v5)]) hx hb dX8_lots_76 hl (by decide) rfl (fun ls hl => ?_)
        refine lv_iload hx hb dX8_lots_78 (lv_at hl 0 rfl) ?_
        refine lv_if_gt (tgt := 86) hx hb dX8_lots_80 (by decide) (fun c80 => ?_) (fun c80 => ?_)
        · replace h := if_t c80 h
          refine lv_lload_n hx hb dX8_lots_86 rfl (lv_at hl 3 rfl) ?_
          refine lv_ldc2 (v := 48271) hx hb hown (hT _ w_713) dX8_lots_87 ?_
          refine lv_lmul hx hb dX8_lots_90 ?_
          refine lv_ldc2 (v := 2147483647) hx hb hown (hT _ w_712) dX8_lots_91 ?_
          obtain ⟨hne94, h⟩ := gn_e h
          refine lv_lrem hx hb dX8_lots_94 hne94 ?_
          refine lv_topl (fun v3_95 ev3_95 => ?_)
          replace h := lt_e h ev3_95
          refine lv_lstore_n (lv' := [(3, .long v3_95), (6, .int r73), (0, .ref (xA X 0)), (1, .int v1), (5, .int v5)]) hx hb dX8_lots_95 rfl hl (by decide) rfl (fun ls hl => ?_)
          refine lv_aload_n hx hb dX8_lots_96 rfl (lv_at hl 2 rfl) ?_
          refine rg_G_village hx hb hT hown hK hP w_188 dX8_lots_97 ?_
          refine lv_lload_n hx hb dX8_lots_100 rfl (lv_at hl 0 rfl) ?_
          refine lv_iload hx hb dX8_lots_101 (lv_at hl 1 rfl) ?_
          refine lv_i2l hx hb dX8_lots_103 rfl ?_
          obtain ⟨hne104, h⟩ := gn_e h
          refine lv_lrem hx hb dX8_lots_104 hne104 ?_
          refine lv_l2i hx hb dX8_lots_105 rfl ?_
          obtain ⟨vS_106, vF_106, hc106, h⟩ := bd2_e h
          refine wcV (As := [.int ((v3_95 - v3_95 / r73.toInt64 * r73.toInt64).toInt32)]) (rest := []) ⟨hx, hb, hml, hown, hts⟩ (c_X7_doTouch l X gi gl ga vS vF sN sF ((v3_95 - v3_95 / r73.toInt64 * r73.toInt64).toInt32) hc106) ⟨w_714, w_715, w_716, w_53, w_717⟩ hd_X7_doTouch rfl rfl ⟨(Nat.le_of_ble_eq_true rfl), (Nat.le_of_ble_eq_true rfl)⟩ ⟨Nat.zero_le _, Nat.zero_le _⟩ gPre_blind (va_recv hK hP (ci := 3) rfl (cG_v (by decide : 0 < 4))) (gPre_call hP hK hN hZ hS) hS (fun _ h => h) rfl rfl hl.1 (Nat.le_of_ble_eq_true rfl) dX8_lots_106 (fun H locs hP _ hS => ?_)
          have hP : va_P X.1 vwCl (cG X gi gl ga vS_106 vF_106 sN sF) H := hP
          refine W.eq (g2 := F0 m 109 ls []) rfl ?_
          refine lv_iinc (v := (v5 + (1 : Int32))) (lv' := [(5, .int (v5 + (1 : Int32))), (3, .long v3_95), (6, .int r73), (0, .ref (xA X 0)), (1, .int v1)]) hx hb dX8_lots_109 hl (k := 4) rfl rfl (by decide) rfl (fun ls hl => ?_)
          refine lv_goto (tgt := 63) hx hb dX8_lots_112 (by decide) ?_
          exact ih63 v1 v3_95 (v5 + (1 : Int32)) vS_106 vF_106 _ _ ls (lv_sub hl [3, 4, 1, 0] rfl) hP hS h
        · replace h := if_f c80 h
          refine lv_iload hx hb dX8_lots_83 (lv_at hl 4 rfl) ?_
          cases h
          exact W.iret hx hb hr (fun t ht _ => ⟨rfl, by rw [ht]; exact hP, hS.F ht⟩) hS.2.2 dX8_lots_85
  rw [X8_lots] at h
  refine lv_iload_n hx hb dX8_lots_0 rfl (lv_at hl 1 rfl) ?_
  refine lv_iconst (v := 1) hx hb dX8_lots_1 (by decide) ?_
  refine lv_icmp_lt (tgt := 25) hx hb dX8_lots_2 (by decide) (fun c2 => ?_) (fun c2 => ?_)
  · replace h := if_t c2 h
    refine lv_iconst (v := -1) hx hb dX8_lots_25 (by decide) ?_
    cases h
    exact W.iret hx hb hr (fun t ht _ => ⟨rfl, by rw [ht]; exact hP, hS.F ht⟩) hS.2.2 dX8_lots_26
  · replace h := if_f c2 h
    refine lv_iload_n hx hb dX8_lots_5 rfl (lv_at hl 1 rfl) ?_
    refine lv_bipush (v := 40) hx hb dX8_lots_6 (by decide) ?_
    refine lv_icmp_gt (tgt := 25) hx hb dX8_lots_8 (by decide) (fun c8 => ?_) (fun c8 => ?_)
    · replace h := if_t c8 h
      refine lv_iconst (v := -1) hx hb dX8_lots_25 (by decide) ?_
      cases h
      exact W.iret hx hb hr (fun t ht _ => ⟨rfl, by rw [ht]; exact hP, hS.F ht⟩) hS.2.2 dX8_lots_26
    · replace h := if_f c8 h
      refine lv_iload_n hx hb dX8_lots_11 rfl (lv_at hl 2 rfl) ?_
      refine lv_iconst (v := 1) hx hb dX8_lots_12 (by decide) ?_
      refine lv_icmp_lt (tgt := 25) hx hb dX8_lots_13 (by decide) (fun c13 => ?_) (fun c13 => ?_)
      · replace h := if_t c13 h
        refine lv_iconst (v := -1) hx hb dX8_lots_25 (by decide) ?_
        cases h
        exact W.iret hx hb hr (fun t ht _ => ⟨rfl, by rw [ht]; exact hP, hS.F ht⟩) hS.2.2 dX8_lots_26
      · replace h := if_f c13 h
        refine lv_iload_n hx hb dX8_lots_16 rfl (lv_at hl 2 rfl) ?_
        refine lv_i2l hx hb dX8_lots_17 rfl ?_
        refine lv_ldc2 (v := 2147483647) hx hb hown (hT _ w_712) dX8_lots_18 ?_
        refine W.lcmp hx hb dX8_lots_21 ?_
        refine lv_if_lt (tgt := 27) hx hb dX8_lots_22 (by decide) (fun c22 => ?_) (fun c22 => ?_)
        · replace h := if_t c22 h
          refine lv_aload_n hx hb dX8_lots_27 rfl (lv_at hl 0 rfl) ?_
          refine rg_G_village hx hb hT hown hK hP w_188 dX8_lots_28 ?_
          refine rg_V_people (q := (0)) hx hb hT hown hK hP (by decide : 0 < 4) w_87 dX8_lots_31 ?_
          refine lv_if_ne (tgt := 40) hx hb dX8_lots_34 (by decide) (fun c34 => ?_) (fun c34 => ?_)
          · replace h := if_f c34 h
            refine lv_aload_n hx hb dX8_lots_40 rfl (lv_at hl 0 rfl) ?_
            refine rg_G_village hx hb hT hown hK hP w_188 dX8_lots_41 ?_
            refine rg_V_deeds (q := (0)) hx hb hT hown hK hP (by decide : 0 < 4) w_91 dX8_lots_44 ?_
            refine lv_iload_n hx hb dX8_lots_47 rfl (lv_at hl 1 rfl) ?_
            refine lv_iadd hx hb dX8_lots_48 ?_
            refine lv_bipush (v := 60) hx hb dX8_lots_49 (by decide) ?_
            refine lv_icmp_le (tgt := 57) hx hb dX8_lots_51 (by decide) (fun c51 => ?_) (fun c51 => ?_)
            · replace h := if_t c51 h
              refine lv_iload_n hx hb dX8_lots_57 rfl (lv_at hl 2 rfl) ?_
              refine lv_i2l hx hb dX8_lots_58 rfl ?_
              refine lv_lstore_n (lv' := [(3, .long a2.toInt64), (0, .ref (xA X 0)), (1, .int a1), (2, .int a2)]) hx hb dX8_lots_59 rfl hl (by decide) rfl (fun ls hl => ?_)
              refine lv_iconst (v := 0) hx hb dX8_lots_60 (by decide) ?_
              refine lv_istore (lv' := [(5, .int (0 : Int32)), (3, .long a2.toInt64), (0, .ref (xA X 0)), (1, .int a1), (2, .int a2)]) hx hb dX8_lots_61 hl (by decide) rfl (fun ls hl => ?_)
              exact hL63 500 a1 a2.toInt64 (0 : Int32) vS vF _ _ ls (lv_sub hl [2, 3, 1, 0] rfl) hP hS h
            · replace h := if_f c51 h
              refine lv_bipush (v := -2) hx hb dX8_lots_54 (by decide) ?_
              cases h
              exact W.iret hx hb hr (fun t ht _ => ⟨rfl, by rw [ht]; exact hP, hS.F ht⟩) hS.2.2 dX8_lots_56
          · replace h := if_t c34 h
            refine lv_bipush (v := -4) hx hb dX8_lots_37 (by decide) ?_
            cases h
            exact W.iret hx hb hr (fun t ht _ => ⟨rfl, by rw [ht]; exact hP, hS.F ht⟩) hS.2.2 dX8_lots_39
        · replace h := if_f c22 h
          refine lv_iconst (v := -1) hx hb dX8_lots_25 (by decide) ?_
          cases h
          exact W.iret hx hb hr (fun t ht _ => ⟨rfl, by rw [ht]; exact hP, hS.F ht⟩) hS.2.2 dX8_lots_26
set_option maxRecDepth 100000 in
set_option maxHeartbeats 4000000 in
theorem c_X8_asked (l : Launch) (X : gX) (gi : Nat → Int32) (gl : Nat → Int64) (ga : Nat → Nat → Int32) (vS : Nat → Nat → Int32) (vF : Nat → Nat → Nat → Int32) (sN : Nat → Int32) (sF : Nat → Nat → Int32) {o0 : Int32} (h : X8_asked gi = some o0) : Met l yX8_asked (Cond.code yX8_asked cX8_asked 1 (some .int) :: gT) { frames := 0, cells := 0, slots := 0, locals := 0 } (va_Pc [.ref (xA X 0)] (gPre X gi gl ga vS vF sN sF)) (k2_QcV (.int o0)) 0 0 (fun _ => False) := by
  refine Met.ofW (cc := cX8_asked) (maxL := 1) (ret := (some .int)) (by decide) rfl ?_
  intro p e s m args below meth c s₁ B hml hv
  obtain ⟨rfl, hP, hK, hN, hZ⟩ := hv
  have hx := B.exec
  have hb := B.bytes
  have hr := B.returns
  have hts := atoms_spec (ws := (Cond.code yX8_asked cX8_asked 1 (some .int) :: gT)) B.pre
  have hT : ∀ w ∈ gT, w.before _ s = true := fun w hw => hts w (List.mem_cons_of_mem _ hw)
  have hown : s.vm.findClass RX8 = some m.cls := findClass_of_methodNamed B.named
  have hlocks := B.notSynchronized
  have hS : va_S (gA X) s.heap s.heap [] := va_S.rf
  have hl := lv_entry ([.ref (xA X 0)]) (n := 1) (Nat.le_of_ble_eq_true rfl)
  rw [lg_entry_eq]
  generalize (lg_sl ([.ref (xA X 0)]) ++ List.replicate (1 - (lg_sl ([.ref (xA X 0)])).length) Slot.unset).toArray = ls at hl ⊢
  have hl : lv_has ls 1 [(0, .ref (xA X 0))] := hl
  rw [X8_asked] at h
  refine lv_aload_n hx hb dX8_asked_0 rfl (lv_at hl 0 rfl) ?_
  refine rg_G_told hx hb hT hown hK hP w_194 dX8_asked_1 ?_
  cases h
  exact W.iret hx hb hr (fun t ht _ => ⟨rfl, ht⟩) (fun _ hq => by cases hq) dX8_asked_4
set_option maxRecDepth 100000 in
set_option maxHeartbeats 4000000 in
theorem c_X8_upper (l : Launch) (X : gX) (gi : Nat → Int32) (gl : Nat → Int64) (ga : Nat → Nat → Int32) (vS : Nat → Nat → Int32) (vF : Nat → Nat → Nat → Int32) (sN : Nat → Int32) (sF : Nat → Nat → Int32) {o0 : Int64} (h : X8_upper gl = some o0) : Met l yX8_upper (Cond.code yX8_upper cX8_upper 1 (some .long) :: gT) { frames := 0, cells := 0, slots := 0, locals := 0 } (va_Pc [.ref (xA X 0)] (gPre X gi gl ga vS vF sN sF)) (k2_QcV (.long o0)) 0 0 (fun _ => False) := by
  refine Met.ofW (cc := cX8_upper) (maxL := 1) (ret := (some .long)) (by decide) rfl ?_
  intro p e s m args below meth c s₁ B hml hv
  obtain ⟨rfl, hP, hK, hN, hZ⟩ := hv
  have hx := B.exec
  have hb := B.bytes
  have hr := B.returns
  have hts := atoms_spec (ws := (Cond.code yX8_upper cX8_upper 1 (some .long) :: gT)) B.pre
  have hT : ∀ w ∈ gT, w.before _ s = true := fun w hw => hts w (List.mem_cons_of_mem _ hw)
  have hown : s.vm.findClass RX8 = some m.cls := findClass_of_methodNamed B.named
  have hlocks := B.notSynchronized
  have hS : va_S (gA X) s.heap s.heap [] := va_S.rf
  have hl := lv_entry ([.ref (xA X 0)]) (n := 1) (Nat.le_of_ble_eq_true rfl)
  rw [lg_entry_eq]
  generalize (lg_sl ([.ref (xA X 0)]) ++ List.replicate (1 - (lg_sl ([.ref (xA X 0)])).length) Slot.unset).toArray = ls at hl ⊢
  have hl : lv_has ls 1 [(0, .ref (xA X 0))] := hl
  rw [X8_upper] at h
  refine lv_aload_n hx hb dX8_upper_0 rfl (lv_at hl 0 rfl) ?_
  refine rg_G_upperTold hx hb hT hown hK hP w_195 dX8_upper_1 ?_
  cases h
  exact W.lret hx hb hr (fun t ht _ => ⟨rfl, ht⟩) (fun _ hq => by cases hq) dX8_upper_4
set_option maxRecDepth 100000 in
set_option maxHeartbeats 4000000 in
theorem c_X8_lower (l : Launch) (X : gX) (gi : Nat → Int32) (gl : Nat → Int64) (ga : Nat → Nat → Int32) (vS : Nat → Nat → Int32) (vF : Nat → Nat → Nat → Int32) (sN : Nat → Int32) (sF : Nat → Nat → Int32) {o0 : Int64} (h : X8_lower gl = some o0) : Met l yX8_lower (Cond.code yX8_lower cX8_lower 1 (some .long) :: gT) { frames := 0, cells := 0, slots := 0, locals := 0 } (va_Pc [.ref (xA X 0)] (gPre X gi gl ga vS vF sN sF)) (k2_QcV (.long o0)) 0 0 (fun _ => False) := by
  refine Met.ofW (cc := cX8_lower) (maxL := 1) (ret := (some .long)) (by decide) rfl ?_
  intro p e s m args below meth c s₁ B hml hv
  obtain ⟨rfl, hP, hK, hN, hZ⟩ := hv
  have hx := B.exec
  have hb := B.bytes
  have hr := B.returns
  have hts := atoms_spec (ws := (Cond.code yX8_lower cX8_lower 1 (some .long) :: gT)) B.pre
  have hT : ∀ w ∈ gT, w.before _ s = true := fun w hw => hts w (List.mem_cons_of_mem _ hw)
  have hown : s.vm.findClass RX8 = some m.cls := findClass_of_methodNamed B.named
  have hlocks := B.notSynchronized
  have hS : va_S (gA X) s.heap s.heap [] := va_S.rf
  have hl := lv_entry ([.ref (xA X 0)]) (n := 1) (Nat.le_of_ble_eq_true rfl)
  rw [lg_entry_eq]
  generalize (lg_sl ([.ref (xA X 0)]) ++ List.replicate (1 - (lg_sl ([.ref (xA X 0)])).length) Slot.unset).toArray = ls at hl ⊢
  have hl : lv_has ls 1 [(0, .ref (xA X 0))] := hl
  rw [X8_lower] at h
  refine lv_aload_n hx hb dX8_lower_0 rfl (lv_at hl 0 rfl) ?_
  refine rg_G_lowerTold hx hb hT hown hK hP w_196 dX8_lower_1 ?_
  cases h
  exact W.lret hx hb hr (fun t ht _ => ⟨rfl, ht⟩) (fun _ hq => by cases hq) dX8_lower_4
