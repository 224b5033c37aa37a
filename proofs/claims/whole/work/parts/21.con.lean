set_option maxRecDepth 100000 in
set_option maxHeartbeats 4000000 in
theorem c_X7_sightDue (l : Launch) (X : gX) (gi : Nat → Int32) (gl : Nat → Int64) (ga : Nat → Nat → Int32) (vS : Nat → Nat → Int32) (vF : Nat → Nat → Nat → Int32) (sN : Nat → Int32) (sF : Nat → Nat → Int32) (a1 : Int32) {o0 : Int32} (h : X7_sightDue vS vF a1 = some o0) : Met l yX7_sightDue (Cond.code yX7_sightDue cX7_sightDue 2 (some .int) :: gT) { frames := 2, cells := 0, slots := 0, locals := 45 } (va_Pc [.ref (xAV X (0) 0), .int a1] (gPre X gi gl ga vS vF sN sF)) (k2_QcV (.int o0)) 0 0 (fun _ => False) := by
  refine Met.ofW (cc := cX7_sightDue) (maxL := 2) (ret := (some .int)) (by decide) rfl ?_
  intro p e s m args below meth c s₁ B hml hv
  obtain ⟨rfl, hP, hK, hN, hZ⟩ := hv
  have hx := B.exec
  have hb := B.bytes
  have hr := B.returns
  have hts := atoms_spec (ws := (Cond.code yX7_sightDue cX7_sightDue 2 (some .int) :: gT)) B.pre
  have hT : ∀ w ∈ gT, w.before _ s = true := fun w hw => hts w (List.mem_cons_of_mem _ hw)
  have hown : s.vm.findClass RX7 = some m.cls := findClass_of_methodNamed B.named
  have hlocks := B.notSynchronized
  have hS : va_S (gA X) s.heap s.heap [] := va_S.rf
  have hl := lv_entry ([.ref (xAV X (0) 0), .int a1]) (n := 2) (Nat.le_of_ble_eq_true rfl)
  rw [lg_entry_eq]
  generalize (lg_sl ([.ref (xAV X (0) 0), .int a1]) ++ List.replicate (2 - (lg_sl ([.ref (xAV X (0) 0), .int a1])).length) Slot.unset).toArray = ls at hl ⊢
  have hl : lv_has ls 2 [(0, .ref (xAV X (0) 0)), (1, .int a1)] := hl
  rw [X7_sightDue] at h
  refine lv_aload_n hx hb dX7_sightDue_0 rfl (lv_at hl 0 rfl) ?_
  refine lv_iload_n hx hb dX7_sightDue_1 rfl (lv_at hl 1 rfl) ?_
  obtain ⟨r2, hc2, h⟩ := Option.bind_eq_some_iff.mp h
  refine rcV (As := [.int a1]) (rest := []) ⟨hx, hb, hml, hown, hts⟩ (c_X7_isPerson l X gi gl ga vS vF sN sF a1 hc2) ⟨w_340, w_329, w_330, w_53, w_331⟩ hd_X7_isPerson rfl rfl ⟨(Nat.le_of_ble_eq_true rfl), (Nat.le_of_ble_eq_true rfl)⟩ ⟨Nat.zero_le _, Nat.zero_le _⟩ gPre_blind (va_recv hK hP (ci := 3) rfl (cG_v (by decide : 0 < 4))) (gPre_call hP hK hN hZ hS) rfl rfl hl.1 (Nat.le_of_ble_eq_true rfl) dX7_sightDue_2 ?_
  refine lv_if_eq (tgt := 17) hx hb dX7_sightDue_5 (by decide) (fun c5 => ?_) (fun c5 => ?_)
  · replace h := if_t c5 h
    refine lv_iconst (v := 1) hx hb dX7_sightDue_17 (by decide) ?_
    cases h
    exact W.iret hx hb hr (fun t ht _ => ⟨rfl, ht⟩) (fun _ hq => by cases hq) dX7_sightDue_18
  · replace h := if_f c5 h
    refine lv_aload_n hx hb dX7_sightDue_8 rfl (lv_at hl 0 rfl) ?_
    refine lv_iload_n hx hb dX7_sightDue_9 rfl (lv_at hl 1 rfl) ?_
    refine lv_iconst (v := 3) hx hb dX7_sightDue_10 (by decide) ?_
    obtain ⟨r11, hc11, h⟩ := Option.bind_eq_some_iff.mp h
    refine rcV (As := [.int a1, .int (3 : Int32)]) (rest := []) ⟨hx, hb, hml, hown, hts⟩ (c_X7_isOf l X gi gl ga vS vF sN sF a1 (3 : Int32) hc11) ⟨w_380, w_367, w_368, w_53, w_369⟩ hd_X7_isOf rfl rfl ⟨(Nat.le_of_ble_eq_true rfl), (Nat.le_of_ble_eq_true rfl)⟩ ⟨Nat.zero_le _, Nat.zero_le _⟩ gPre_blind (va_recv hK hP (ci := 3) rfl (cG_v (by decide : 0 < 4))) (gPre_call hP hK hN hZ hS) rfl rfl hl.1 (Nat.le_of_ble_eq_true rfl) dX7_sightDue_11 ?_
    refine lv_if_eq (tgt := 19) hx hb dX7_sightDue_14 (by decide) (fun c14 => ?_) (fun c14 => ?_)
    · replace h := if_t c14 h
      refine lv_aload_n hx hb dX7_sightDue_19 rfl (lv_at hl 0 rfl) ?_
      refine lv_iload_n hx hb dX7_sightDue_20 rfl (lv_at hl 1 rfl) ?_
      refine lv_iconst (v := 2) hx hb dX7_sightDue_21 (by decide) ?_
      obtain ⟨r22, hc22, h⟩ := Option.bind_eq_some_iff.mp h
      refine rcV (As := [.int a1, .int (2 : Int32)]) (rest := []) ⟨hx, hb, hml, hown, hts⟩ (c_X7_isOf l X gi gl ga vS vF sN sF a1 (2 : Int32) hc22) ⟨w_380, w_367, w_368, w_53, w_369⟩ hd_X7_isOf rfl rfl ⟨(Nat.le_of_ble_eq_true rfl), (Nat.le_of_ble_eq_true rfl)⟩ ⟨Nat.zero_le _, Nat.zero_le _⟩ gPre_blind (va_recv hK hP (ci := 3) rfl (cG_v (by decide : 0 < 4))) (gPre_call hP hK hN hZ hS) rfl rfl hl.1 (Nat.le_of_ble_eq_true rfl) dX7_sightDue_22 ?_
      refine lv_if_eq (tgt := 39) hx hb dX7_sightDue_25 (by decide) (fun c25 => ?_) (fun c25 => ?_)
      · replace h := if_t c25 h
        refine lv_aload_n hx hb dX7_sightDue_39 rfl (lv_at hl 0 rfl) ?_
        refine rg_V_tastes (q := (0)) hx hb hT hown hK hP (by decide : 0 < 4) w_95 dX7_sightDue_40 ?_
        refine lv_iload_n hx hb dX7_sightDue_43 rfl (lv_at hl 1 rfl) ?_
        obtain ⟨hi44, h⟩ := gd_e h
        refine ra_v1 (q := (0)) hx hb hK hP (by decide : 0 < 4) (ib_in hi44) dX7_sightDue_44 ?_
        cases h
        exact W.iret hx hb hr (fun t ht _ => ⟨rfl, ht⟩) (fun _ hq => by cases hq) dX7_sightDue_45
      · replace h := if_f c25 h
        refine lv_aload_n hx hb dX7_sightDue_28 rfl (lv_at hl 0 rfl) ?_
        refine rg_V_tastes (q := (0)) hx hb hT hown hK hP (by decide : 0 < 4) w_95 dX7_sightDue_29 ?_
        refine lv_iload_n hx hb dX7_sightDue_32 rfl (lv_at hl 1 rfl) ?_
        obtain ⟨hi33, h⟩ := gd_e h
        refine ra_v1 (q := (0)) hx hb hK hP (by decide : 0 < 4) (ib_in hi33) dX7_sightDue_33 ?_
        refine lv_iconst (v := 1) hx hb dX7_sightDue_34 (by decide) ?_
        refine lv_iadd hx hb dX7_sightDue_35 ?_
        refine lv_goto (tgt := 45) hx hb dX7_sightDue_36 (by decide) ?_
        cases h
        exact W.iret hx hb hr (fun t ht _ => ⟨rfl, ht⟩) (fun _ hq => by cases hq) dX7_sightDue_45
    · replace h := if_f c14 h
      refine lv_iconst (v := 1) hx hb dX7_sightDue_17 (by decide) ?_
      cases h
      exact W.iret hx hb hr (fun t ht _ => ⟨rfl, ht⟩) (fun _ hq => by cases hq) dX7_sightDue_18
set_option maxRecDepth 100000 in
set_option maxHeartbeats 4000000 in
theorem c_X7_isReady (l : Launch) (X : gX) (gi : Nat → Int32) (gl : Nat → Int64) (ga : Nat → Nat → Int32) (vS : Nat → Nat → Int32) (vF : Nat → Nat → Nat → Int32) (sN : Nat → Int32) (sF : Nat → Nat → Int32) (a1 : Int32) {o0 : Int32} (h : X7_isReady vS vF a1 = some o0) : Met l yX7_isReady (Cond.code yX7_isReady cX7_isReady 2 (some .boolean) :: gT) { frames := 2, cells := 0, slots := 0, locals := 45 } (va_Pc [.ref (xAV X (0) 0), .int a1] (gPre X gi gl ga vS vF sN sF)) (k2_QcV (.int o0)) 0 0 (fun _ => False) := by
  refine Met.ofW (cc := cX7_isReady) (maxL := 2) (ret := (some .boolean)) (by decide) rfl ?_
  intro p e s m args below meth c s₁ B hml hv
  obtain ⟨rfl, hP, hK, hN, hZ⟩ := hv
  have hx := B.exec
  have hb := B.bytes
  have hr := B.returns
  have hts := atoms_spec (ws := (Cond.code yX7_isReady cX7_isReady 2 (some .boolean) :: gT)) B.pre
  have hT : ∀ w ∈ gT, w.before _ s = true := fun w hw => hts w (List.mem_cons_of_mem _ hw)
  have hown : s.vm.findClass RX7 = some m.cls := findClass_of_methodNamed B.named
  have hlocks := B.notSynchronized
  have hS : va_S (gA X) s.heap s.heap [] := va_S.rf
  have hl := lv_entry ([.ref (xAV X (0) 0), .int a1]) (n := 2) (Nat.le_of_ble_eq_true rfl)
  rw [lg_entry_eq]
  generalize (lg_sl ([.ref (xAV X (0) 0), .int a1]) ++ List.replicate (2 - (lg_sl ([.ref (xAV X (0) 0), .int a1])).length) Slot.unset).toArray = ls at hl ⊢
  have hl : lv_has ls 2 [(0, .ref (xAV X (0) 0)), (1, .int a1)] := hl
  rw [X7_isReady] at h
  refine lv_aload_n hx hb dX7_isReady_0 rfl (lv_at hl 0 rfl) ?_
  refine lv_iload_n hx hb dX7_isReady_1 rfl (lv_at hl 1 rfl) ?_
  refine lv_iconst (v := 3) hx hb dX7_isReady_2 (by decide) ?_
  obtain ⟨r3, hc3, h⟩ := Option.bind_eq_some_iff.mp h
  refine rcV (As := [.int a1, .int (3 : Int32)]) (rest := []) ⟨hx, hb, hml, hown, hts⟩ (c_X7_isOf l X gi gl ga vS vF sN sF a1 (3 : Int32) hc3) ⟨w_380, w_367, w_368, w_53, w_369⟩ hd_X7_isOf rfl rfl ⟨(Nat.le_of_ble_eq_true rfl), (Nat.le_of_ble_eq_true rfl)⟩ ⟨Nat.zero_le _, Nat.zero_le _⟩ gPre_blind (va_recv hK hP (ci := 3) rfl (cG_v (by decide : 0 < 4))) (gPre_call hP hK hN hZ hS) rfl rfl hl.1 (Nat.le_of_ble_eq_true rfl) dX7_isReady_3 ?_
  refine lv_if_ne (tgt := 20) hx hb dX7_isReady_6 (by decide) (fun c6 => ?_) (fun c6 => ?_)
  · replace h := if_f c6 h
    refine lv_iconst (v := 1) hx hb dX7_isReady_20 (by decide) ?_
    refine lv_goto (tgt := 25) hx hb dX7_isReady_21 (by decide) ?_
    cases h
    exact W.zret (ty := .boolean) hx hb hr rfl (fun t ht _ => ⟨rfl, ht⟩) (fun _ hq => by cases hq) dX7_isReady_25
  · replace h := if_t c6 h
    refine lv_aload_n hx hb dX7_isReady_9 rfl (lv_at hl 0 rfl) ?_
    refine lv_iload_n hx hb dX7_isReady_10 rfl (lv_at hl 1 rfl) ?_
    obtain ⟨r11, hc11, h⟩ := Option.bind_eq_some_iff.mp h
    refine rcV (As := [.int a1]) (rest := []) ⟨hx, hb, hml, hown, hts⟩ (c_X7_daysAgo l X gi gl ga vS vF sN sF a1 hc11) ⟨w_461, w_337, w_338, w_53, w_339⟩ hd_X7_daysAgo rfl rfl ⟨(Nat.le_of_ble_eq_true rfl), (Nat.le_of_ble_eq_true rfl)⟩ ⟨Nat.zero_le _, Nat.zero_le _⟩ gPre_blind (va_recv hK hP (ci := 3) rfl (cG_v (by decide : 0 < 4))) (gPre_call hP hK hN hZ hS) rfl rfl hl.1 (Nat.le_of_ble_eq_true rfl) dX7_isReady_11 ?_
    refine lv_sipush (v := 365) hx hb dX7_isReady_14 (by decide) ?_
    refine lv_icmp_lt (tgt := 24) hx hb dX7_isReady_17 (by decide) (fun c17 => ?_) (fun c17 => ?_)
    · replace h := if_t c17 h
      refine lv_iconst (v := 0) hx hb dX7_isReady_24 (by decide) ?_
      cases h
      exact W.zret (ty := .boolean) hx hb hr rfl (fun t ht _ => ⟨rfl, ht⟩) (fun _ hq => by cases hq) dX7_isReady_25
    · replace h := if_f c17 h
      refine lv_iconst (v := 1) hx hb dX7_isReady_20 (by decide) ?_
      refine lv_goto (tgt := 25) hx hb dX7_isReady_21 (by decide) ?_
      cases h
      exact W.zret (ty := .boolean) hx hb hr rfl (fun t ht _ => ⟨rfl, ht⟩) (fun _ hq => by cases hq) dX7_isReady_25
set_option maxRecDepth 100000 in
set_option maxHeartbeats 4000000 in
theorem c_X7_isAmused (l : Launch) (X : gX) (gi : Nat → Int32) (gl : Nat → Int64) (ga : Nat → Nat → Int32) (vS : Nat → Nat → Int32) (vF : Nat → Nat → Nat → Int32) (sN : Nat → Int32) (sF : Nat → Nat → Int32) (a1 : Int32) {o0 : Int32} (h : X7_isAmused vS vF a1 = some o0) : Met l yX7_isAmused (Cond.code yX7_isAmused cX7_isAmused 3 (some .boolean) :: gT) { frames := 4, cells := 0, slots := 0, locals := 88 } (va_Pc [.ref (xAV X (0) 0), .int a1] (gPre X gi gl ga vS vF sN sF)) (k2_QcV (.int o0)) 0 0 (fun _ => False) := by
  refine Met.ofW (cc := cX7_isAmused) (maxL := 3) (ret := (some .boolean)) (by decide) rfl ?_
  intro p e s m args below meth c s₁ B hml hv
  obtain ⟨rfl, hP, hK, hN, hZ⟩ := hv
  have hx := B.exec
  have hb := B.bytes
  have hr := B.returns
  have hts := atoms_spec (ws := (Cond.code yX7_isAmused cX7_isAmused 3 (some .boolean) :: gT)) B.pre
  have hT : ∀ w ∈ gT, w.before _ s = true := fun w hw => hts w (List.mem_cons_of_mem _ hw)
  have hown : s.vm.findClass RX7 = some m.cls := findClass_of_methodNamed B.named
  have hlocks := B.notSynchronized
  have hS : va_S (gA X) s.heap s.heap [] := va_S.rf
  have hl := lv_entry ([.ref (xAV X (0) 0), .int a1]) (n := 3) (Nat.le_of_ble_eq_true rfl)
  rw [lg_entry_eq]
  generalize (lg_sl ([.ref (xAV X (0) 0), .int a1]) ++ List.replicate (3 - (lg_sl ([.ref (xAV X (0) 0), .int a1])).length) Slot.unset).toArray = ls at hl ⊢
  have hl : lv_has ls 3 [(0, .ref (xAV X (0) 0)), (1, .int a1)] := hl
  have hL22 : ∀ (v1 : Int32) (t0 : Int32) (ls : Array Slot), lv_has ls 3 [(0, .ref (xAV X (0) 0)), (1, .int v1)] → X7_isAmused_22 vS vF v1 t0 = some o0 → W p l e (headSpec (Cond.code yX7_isAmused cX7_isAmused 3 (some .boolean) :: gT) { frames := 4, cells := 0, slots := 0, locals := 88 }).room s m [.ref (xAV X (0) 0), .int a1].toArray below meth c s.heap [] 0 0 (MQ below (k2_QcV (.int o0)) [.ref (xAV X (0) 0), .int a1].toArray s 0 0 (fun _ => False)) (F0 m 22 ls [.int t0]) := by
    intro v1 t0 ls hl h
    rw [X7_isAmused_22] at h
    refine lv_istore_n (lv' := [(2, .int t0), (0, .ref (xAV X (0) 0)), (1, .int v1)]) hx hb dX7_isAmused_22 rfl hl (by decide) rfl (fun ls hl => ?_)
    refine lv_aload_n hx hb dX7_isAmused_23 rfl (lv_at hl 1 rfl) ?_
    refine lv_iload_n hx hb dX7_isAmused_24 rfl (lv_at hl 2 rfl) ?_
    obtain ⟨r25, hc25, h⟩ := Option.bind_eq_some_iff.mp h
    refine rcV (As := [.int v1]) (rest := []) ⟨hx, hb, hml, hown, hts⟩ (c_X7_isPerson l X gi gl ga vS vF sN sF v1 hc25) ⟨w_340, w_329, w_330, w_53, w_331⟩ hd_X7_isPerson rfl rfl ⟨(Nat.le_of_ble_eq_true rfl), (Nat.le_of_ble_eq_true rfl)⟩ ⟨Nat.zero_le _, Nat.zero_le _⟩ gPre_blind (va_recv hK hP (ci := 3) rfl (cG_v (by decide : 0 < 4))) (gPre_call hP hK hN hZ hS) rfl rfl hl.1 (Nat.le_of_ble_eq_true rfl) dX7_isAmused_25 ?_
    refine lv_if_eq (tgt := 60) hx hb dX7_isAmused_28 (by decide) (fun c28 => ?_) (fun c28 => ?_)
    · replace h := if_t c28 h
      refine lv_iconst (v := 0) hx hb dX7_isAmused_60 (by decide) ?_
      cases h
      exact W.zret (ty := .boolean) hx hb hr rfl (fun t ht _ => ⟨rfl, ht⟩) (fun _ hq => by cases hq) dX7_isAmused_61
    · replace h := if_f c28 h
      refine lv_iload_n hx hb dX7_isAmused_31 rfl (lv_at hl 0 rfl) ?_
      refine lv_if_ne (tgt := 60) hx hb dX7_isAmused_32 (by decide) (fun c32 => ?_) (fun c32 => ?_)
      · replace h := if_f c32 h
        refine lv_iconst (v := 0) hx hb dX7_isAmused_60 (by decide) ?_
        cases h
        exact W.zret (ty := .boolean) hx hb hr rfl (fun t ht _ => ⟨rfl, ht⟩) (fun _ hq => by cases hq) dX7_isAmused_61
      · replace h := if_t c32 h
        refine lv_aload_n hx hb dX7_isAmused_35 rfl (lv_at hl 1 rfl) ?_
        refine lv_iload_n hx hb dX7_isAmused_36 rfl (lv_at hl 2 rfl) ?_
        obtain ⟨r37, hc37, h⟩ := Option.bind_eq_some_iff.mp h
        refine rcV (As := [.int v1]) (rest := []) ⟨hx, hb, hml, hown, hts⟩ (c_X7_isReady l X gi gl ga vS vF sN sF v1 hc37) ⟨w_457, w_458, w_459, w_53, w_460⟩ hd_X7_isReady rfl rfl ⟨(Nat.le_of_ble_eq_true rfl), (Nat.le_of_ble_eq_true rfl)⟩ ⟨Nat.zero_le _, Nat.zero_le _⟩ gPre_blind (va_recv hK hP (ci := 3) rfl (cG_v (by decide : 0 < 4))) (gPre_call hP hK hN hZ hS) rfl rfl hl.1 (Nat.le_of_ble_eq_true rfl) dX7_isAmused_37 ?_
        refine lv_if_eq (tgt := 60) hx hb dX7_isAmused_40 (by decide) (fun c40 => ?_) (fun c40 => ?_)
        · replace h := if_t c40 h
          refine lv_iconst (v := 0) hx hb dX7_isAmused_60 (by decide) ?_
          cases h
          exact W.zret (ty := .boolean) hx hb hr rfl (fun t ht _ => ⟨rfl, ht⟩) (fun _ hq => by cases hq) dX7_isAmused_61
        · replace h := if_f c40 h
          refine lv_aload_n hx hb dX7_isAmused_43 rfl (lv_at hl 1 rfl) ?_
          refine lv_iload_n hx hb dX7_isAmused_44 rfl (lv_at hl 2 rfl) ?_
          obtain ⟨r45, hc45, h⟩ := Option.bind_eq_some_iff.mp h
          refine rcV (As := [.int v1]) (rest := []) ⟨hx, hb, hml, hown, hts⟩ (c_X7_sight l X gi gl ga vS vF sN sF v1 hc45) ⟨w_462, w_377, w_378, w_53, w_379⟩ hd_X7_sight rfl rfl ⟨(Nat.le_of_ble_eq_true rfl), (Nat.le_of_ble_eq_true rfl)⟩ ⟨Nat.zero_le _, Nat.zero_le _⟩ gPre_blind (va_recv hK hP (ci := 3) rfl (cG_v (by decide : 0 < 4))) (gPre_call hP hK hN hZ hS) rfl rfl hl.1 (Nat.le_of_ble_eq_true rfl) dX7_isAmused_45 ?_
          refine lv_aload_n hx hb dX7_isAmused_48 rfl (lv_at hl 1 rfl) ?_
          refine lv_iload_n hx hb dX7_isAmused_49 rfl (lv_at hl 2 rfl) ?_
          obtain ⟨r50, hc50, h⟩ := Option.bind_eq_some_iff.mp h
          refine rcV (As := [.int v1]) (rest := [.int r45]) ⟨hx, hb, hml, hown, hts⟩ (c_X7_sightDue l X gi gl ga vS vF sN sF v1 hc50) ⟨w_463, w_464, w_465, w_53, w_466⟩ hd_X7_sightDue rfl rfl ⟨(Nat.le_of_ble_eq_true rfl), (Nat.le_of_ble_eq_true rfl)⟩ ⟨Nat.zero_le _, Nat.zero_le _⟩ gPre_blind (va_recv hK hP (ci := 3) rfl (cG_v (by decide : 0 < 4))) (gPre_call hP hK hN hZ hS) rfl rfl hl.1 (Nat.le_of_ble_eq_true rfl) dX7_isAmused_50 ?_
          refine lv_icmp_lt (tgt := 60) hx hb dX7_isAmused_53 (by decide) (fun c53 => ?_) (fun c53 => ?_)
          · replace h := if_t c53 h
            refine lv_iconst (v := 0) hx hb dX7_isAmused_60 (by decide) ?_
            cases h
            exact W.zret (ty := .boolean) hx hb hr rfl (fun t ht _ => ⟨rfl, ht⟩) (fun _ hq => by cases hq) dX7_isAmused_61
          · replace h := if_f c53 h
            refine lv_iconst (v := 1) hx hb dX7_isAmused_56 (by decide) ?_
            refine lv_goto (tgt := 61) hx hb dX7_isAmused_57 (by decide) ?_
            cases h
            exact W.zret (ty := .boolean) hx hb hr rfl (fun t ht _ => ⟨rfl, ht⟩) (fun _ hq => by cases hq) dX7_isAmused_61
  rw [X7_isAmused] at h
  refine lv_aload_n hx hb dX7_isAmused_0 rfl (lv_at hl 0 rfl) ?_
  refine lv_iload_n hx hb dX7_isAmused_1 rfl (lv_at hl 1 rfl) ?_
  obtain ⟨r2, hc2, h⟩ := Option.bind_eq_some_iff.mp h
  refine rcV (As := [.int a1]) (rest := []) ⟨hx, hb, hml, hown, hts⟩ (c_X7_isStuck l X gi gl ga vS vF sN sF a1 hc2) ⟨w_352, w_353, w_354, w_53, w_355⟩ hd_X7_isStuck rfl rfl ⟨(Nat.le_of_ble_eq_true rfl), (Nat.le_of_ble_eq_true rfl)⟩ ⟨Nat.zero_le _, Nat.zero_le _⟩ gPre_blind (va_recv hK hP (ci := 3) rfl (cG_v (by decide : 0 < 4))) (gPre_call hP hK hN hZ hS) rfl rfl hl.1 (Nat.le_of_ble_eq_true rfl) dX7_isAmused_2 ?_
  refine lv_if_eq (tgt := 21) hx hb dX7_isAmused_5 (by decide) (fun c5 => ?_) (fun c5 => ?_)
  · replace h := if_t c5 h
    refine lv_iconst (v := 0) hx hb dX7_isAmused_21 (by decide) ?_
    exact hL22 a1 (0 : Int32) ls (lv_sub hl [0, 1] rfl) h
  · replace h := if_f c5 h
    refine lv_aload_n hx hb dX7_isAmused_8 rfl (lv_at hl 0 rfl) ?_
    refine lv_iload_n hx hb dX7_isAmused_9 rfl (lv_at hl 1 rfl) ?_
    refine lv_iconst (v := 3) hx hb dX7_isAmused_10 (by decide) ?_
    obtain ⟨r11, hc11, h⟩ := Option.bind_eq_some_iff.mp h
    refine rcV (As := [.int a1, .int (3 : Int32)]) (rest := []) ⟨hx, hb, hml, hown, hts⟩ (c_X7_isOf l X gi gl ga vS vF sN sF a1 (3 : Int32) hc11) ⟨w_380, w_367, w_368, w_53, w_369⟩ hd_X7_isOf rfl rfl ⟨(Nat.le_of_ble_eq_true rfl), (Nat.le_of_ble_eq_true rfl)⟩ ⟨Nat.zero_le _, Nat.zero_le _⟩ gPre_blind (va_recv hK hP (ci := 3) rfl (cG_v (by decide : 0 < 4))) (gPre_call hP hK hN hZ hS) rfl rfl hl.1 (Nat.le_of_ble_eq_true rfl) dX7_isAmused_11 ?_
    refine lv_if_ne (tgt := 21) hx hb dX7_isAmused_14 (by decide) (fun c14 => ?_) (fun c14 => ?_)
    · replace h := if_f c14 h
      refine lv_iconst (v := 0) hx hb dX7_isAmused_21 (by decide) ?_
      exact hL22 a1 (0 : Int32) ls (lv_sub hl [0, 1] rfl) h
    · replace h := if_t c14 h
      refine lv_iconst (v := 1) hx hb dX7_isAmused_17 (by decide) ?_
      refine lv_goto (tgt := 22) hx hb dX7_isAmused_18 (by decide) ?_
      exact hL22 a1 (1 : Int32) ls (lv_sub hl [0, 1] rfl) h
set_option maxRecDepth 100000 in
set_option maxHeartbeats 4000000 in
theorem c_X7_freeOthers (l : Launch) (X : gX) (gi : Nat → Int32) (gl : Nat → Int64) (ga : Nat → Nat → Int32) (vS : Nat → Nat → Int32) (vF : Nat → Nat → Nat → Int32) (sN : Nat → Int32) (sF : Nat → Nat → Int32) {o0 : Int32} (h : X7_freeOthers vS vF = some o0) : Met l yX7_freeOthers (Cond.code yX7_freeOthers cX7_freeOthers 1 (some .int) :: gT) { frames := 3, cells := 0, slots := 0, locals := 63 } (va_Pc [.ref (xAV X (0) 0)] (gPre X gi gl ga vS vF sN sF)) (k2_QcV (.int o0)) 0 0 (fun _ => False) := by
  refine Met.ofW (cc := cX7_freeOthers) (maxL := 1) (ret := (some .int)) (by decide) rfl ?_
  intro p e s m args below meth c s₁ B hml hv
  obtain ⟨rfl, hP, hK, hN, hZ⟩ := hv
  have hx := B.exec
  have hb := B.bytes
  have hr := B.returns
  have hts := atoms_spec (ws := (Cond.code yX7_freeOthers cX7_freeOthers 1 (some .int) :: gT)) B.pre
  have hT : ∀ w ∈ gT, w.before _ s = true := fun w hw => hts w (List.mem_cons_of_mem _ hw)
  have hown : s.vm.findClass RX7 = some m.cls := findClass_of_methodNamed B.named
  have hlocks := B.notSynchronized
  have hS : va_S (gA X) s.heap s.heap [] := va_S.rf
  have hl := lv_entry ([.ref (xAV X (0) 0)]) (n := 1) (Nat.le_of_ble_eq_true rfl)
  rw [lg_entry_eq]
  generalize (lg_sl ([.ref (xAV X (0) 0)]) ++ List.replicate (1 - (lg_sl ([.ref (xAV X (0) 0)])).length) Slot.unset).toArray = ls at hl ⊢
  have hl : lv_has ls 1 [(0, .ref (xAV X (0) 0))] := hl
  rw [X7_freeOthers] at h
  refine lv_aload_n hx hb dX7_freeOthers_0 rfl (lv_at hl 0 rfl) ?_
  refine rg_V_people (q := (0)) hx hb hT hown hK hP (by decide : 0 < 4) w_82 dX7_freeOthers_1 ?_
  refine lv_aload_n hx hb dX7_freeOthers_4 rfl (lv_at hl 0 rfl) ?_
  obtain ⟨r5, hc5, h⟩ := Option.bind_eq_some_iff.mp h
  refine rcV (As := []) (rest := [.int (vS (0) 0)]) ⟨hx, hb, hml, hown, hts⟩ (c_X7_stuckCount l X gi gl ga vS vF sN sF hc5) ⟨w_386, w_387, w_388, w_53, w_389⟩ hd_X7_stuckCount rfl rfl ⟨(Nat.le_of_ble_eq_true rfl), (Nat.le_of_ble_eq_true rfl)⟩ ⟨Nat.zero_le _, Nat.zero_le _⟩ gPre_blind (va_recv hK hP (ci := 3) rfl (cG_v (by decide : 0 < 4))) (gPre_call hP hK hN hZ hS) rfl rfl hl.1 (Nat.le_of_ble_eq_true rfl) dX7_freeOthers_5 ?_
  refine lv_isub hx hb dX7_freeOthers_8 ?_
  refine lv_iconst (v := 1) hx hb dX7_freeOthers_9 (by decide) ?_
  refine lv_isub hx hb dX7_freeOthers_10 ?_
  cases h
  exact W.iret hx hb hr (fun t ht _ => ⟨rfl, ht⟩) (fun _ hq => by cases hq) dX7_freeOthers_11
set_option maxRecDepth 100000 in
set_option maxHeartbeats 4000000 in
theorem c_X7_touches (l : Launch) (X : gX) (gi : Nat → Int32) (gl : Nat → Int64) (ga : Nat → Nat → Int32) (vS : Nat → Nat → Int32) (vF : Nat → Nat → Nat → Int32) (sN : Nat → Int32) (sF : Nat → Nat → Int32) {o0 : Int32} (h : X7_touches vS vF = some o0) : Met l yX7_touches (Cond.code yX7_touches cX7_touches 3 (some .int) :: gT) { frames := 3, cells := 0, slots := 0, locals := 67 } (va_Pc [.ref (xAV X (0) 0)] (gPre X gi gl ga vS vF sN sF)) (k2_QcV (.int o0)) 0 0 (fun _ => False) := by
  refine Met.ofW (cc := cX7_touches) (maxL := 3) (ret := (some .int)) (by decide) rfl ?_
  intro p e s m args below meth c s₁ B hml hv
  obtain ⟨rfl, hP, hK, hN, hZ⟩ := hv
  have hx := B.exec
  have hb := B.bytes
  have hr := B.returns
  have hts := atoms_spec (ws := (Cond.code yX7_touches cX7_touches 3 (some .int) :: gT)) B.pre
  have hT : ∀ w ∈ gT, w.before _ s = true := fun w hw => hts w (List.mem_cons_of_mem _ hw)
  have hown : s.vm.findClass RX7 = some m.cls := findClass_of_methodNamed B.named
  have hlocks := B.notSynchronized
  have hS : va_S (gA X) s.heap s.heap [] := va_S.rf
  have hl := lv_entry ([.ref (xAV X (0) 0)]) (n := 3) (Nat.le_of_ble_eq_true rfl)
  rw [lg_entry_eq]
  generalize (lg_sl ([.ref (xAV X (0) 0)]) ++ List.replicate (3 - (lg_sl ([.ref (xAV X (0) 0)])).length) Slot.unset).toArray = ls at hl ⊢
  have hl : lv_has ls 3 [(0, .ref (xAV X (0) 0))] := hl
  have hL4 : ∀ (n4 : Nat) (v1 : Int32) (v2 : Int32) (ls : Array Slot), lv_has ls 3 [(0, .ref (xAV X (0) 0)), (1, .int v1), (2, .int v2)] → X7_touches_4 vS vF n4 v1 v2 = some o0 → W p l e (headSpec (Cond.code yX7_touches cX7_touches 3 (some .int) :: gT) { frames := 3, cells := 0, slots := 0, locals := 67 }).room s m [.ref (xAV X (0) 0)].toArray below meth c s.heap [] 0 0 (MQ below (k2_QcV (.int o0)) [.ref (xAV X (0) 0)].toArray s 0 0 (fun _ => False)) (F0 m 4 ls []) := by
    intro n4
    induction n4 with
    | zero =>
      intro v1 v2 ls hl h
      rw [X7_touches_4] at h
      cases h
    | succ n4 ih4 =>
      intro v1 v2 ls hl h
      rw [X7_touches_4] at h
      refine lv_iload_n hx hb dX7_touches_4 rfl (lv_at hl 2 rfl) ?_
      refine lv_aload_n hx hb dX7_touches_5 rfl (lv_at hl 0 rfl) ?_
      refine rg_V_people (q := (0)) hx hb hT hown hK hP (by decide : 0 < 4) w_82 dX7_touches_6 ?_
      refine lv_icmp_ge (tgt := 43) hx hb dX7_touches_9 (by decide) (fun c9 => ?_) (fun c9 => ?_)
      · replace h := if_t c9 h
        refine lv_iload_n hx hb dX7_touches_43 rfl (lv_at hl 1 rfl) ?_
        refine lv_aload_n hx hb dX7_touches_44 rfl (lv_at hl 0 rfl) ?_
        obtain ⟨r45, hc45, h⟩ := Option.bind_eq_some_iff.mp h
        refine rcV (As := []) (rest := [.int v1]) ⟨hx, hb, hml, hown, hts⟩ (c_X7_stuckCount l X gi gl ga vS vF sN sF hc45) ⟨w_386, w_387, w_388, w_53, w_389⟩ hd_X7_stuckCount rfl rfl ⟨(Nat.le_of_ble_eq_true rfl), (Nat.le_of_ble_eq_true rfl)⟩ ⟨Nat.zero_le _, Nat.zero_le _⟩ gPre_blind (va_recv hK hP (ci := 3) rfl (cG_v (by decide : 0 < 4))) (gPre_call hP hK hN hZ hS) rfl rfl hl.1 (Nat.le_of_ble_eq_true rfl) dX7_touches_45 ?_
        refine lv_iconst (v := 1) hx hb dX7_touches_48 (by decide) ?_
        refine lv_iadd hx hb dX7_touches_49 ?_
        refine lv_imul hx hb dX7_touches_50 ?_
        cases h
        exact W.iret hx hb hr (fun t ht _ => ⟨rfl, ht⟩) (fun _ hq => by cases hq) dX7_touches_51
      · replace h := if_f c9 h
        refine lv_aload_n hx hb dX7_touches_12 rfl (lv_at hl 0 rfl) ?_
        refine lv_iload_n hx hb dX7_touches_13 rfl (lv_at hl 2 rfl) ?_
        obtain ⟨r14, hc14, h⟩ := Option.bind_eq_some_iff.mp h
        refine rcV (As := [.int v2]) (rest := []) ⟨hx, hb, hml, hown, hts⟩ (c_X7_isStuck l X gi gl ga vS vF sN sF v2 hc14) ⟨w_352, w_353, w_354, w_53, w_355⟩ hd_X7_isStuck rfl rfl ⟨(Nat.le_of_ble_eq_true rfl), (Nat.le_of_ble_eq_true rfl)⟩ ⟨Nat.zero_le _, Nat.zero_le _⟩ gPre_blind (va_recv hK hP (ci := 3) rfl (cG_v (by decide : 0 < 4))) (gPre_call hP hK hN hZ hS) rfl rfl hl.1 (Nat.le_of_ble_eq_true rfl) dX7_touches_14 ?_
        refine lv_if_ne (tgt := 37) hx hb dX7_touches_17 (by decide) (fun c17 => ?_) (fun c17 => ?_)
        · replace h := if_f c17 h
          refine lv_iinc (v := (v2 + (1 : Int32))) (lv' := [(2, .int (v2 + (1 : Int32))), (0, .ref (xAV X (0) 0)), (1, .int v1)]) hx hb dX7_touches_37 hl (k := 2) rfl rfl (by decide) rfl (fun ls hl => ?_)
          refine lv_goto (tgt := 4) hx hb dX7_touches_40 (by decide) ?_
          exact ih4 v1 (v2 + (1 : Int32)) ls (lv_sub hl [1, 2, 0] rfl) h
        · replace h := if_t c17 h
          refine lv_iload_n hx hb dX7_touches_20 rfl (lv_at hl 1 rfl) ?_
          refine lv_aload_n hx hb dX7_touches_21 rfl (lv_at hl 0 rfl) ?_
          refine lv_iload_n hx hb dX7_touches_22 rfl (lv_at hl 2 rfl) ?_
          refine lv_iconst (v := 0) hx hb dX7_touches_23 (by decide) ?_
          obtain ⟨r24, hc24, h⟩ := Option.bind_eq_some_iff.mp h
          refine rcV (As := [.int v2, .int (0 : Int32)]) (rest := [.int v1]) ⟨hx, hb, hml, hown, hts⟩ (c_X7_sticksBy l X gi gl ga vS vF sN sF v2 (0 : Int32) hc24) ⟨w_595, w_438, w_439, w_53, w_440⟩ hd_X7_sticksBy rfl rfl ⟨(Nat.le_of_ble_eq_true rfl), (Nat.le_of_ble_eq_true rfl)⟩ ⟨Nat.zero_le _, Nat.zero_le _⟩ gPre_blind (va_recv hK hP (ci := 3) rfl (cG_v (by decide : 0 < 4))) (gPre_call hP hK hN hZ hS) rfl rfl hl.1 (Nat.le_of_ble_eq_true rfl) dX7_touches_24 ?_
          refine lv_if_eq (tgt := 34) hx hb dX7_touches_27 (by decide) (fun c27 => ?_) (fun c27 => ?_)
          · replace h := if_t c27 h
            refine lv_iconst (v := 1) hx hb dX7_touches_34 (by decide) ?_
            refine lv_iadd hx hb dX7_touches_35 ?_
            refine lv_istore_n (lv' := [(1, .int (v1 + (1 : Int32))), (0, .ref (xAV X (0) 0)), (2, .int v2)]) hx hb dX7_touches_36 rfl hl (by decide) rfl (fun ls hl => ?_)
            refine lv_iinc (v := (v2 + (1 : Int32))) (lv' := [(2, .int (v2 + (1 : Int32))), (1, .int (v1 + (1 : Int32))), (0, .ref (xAV X (0) 0))]) hx hb dX7_touches_37 hl (k := 2) rfl rfl (by decide) rfl (fun ls hl => ?_)
            refine lv_goto (tgt := 4) hx hb dX7_touches_40 (by decide) ?_
            exact ih4 (v1 + (1 : Int32)) (v2 + (1 : Int32)) ls (lv_sub hl [2, 1, 0] rfl) h
          · replace h := if_f c27 h
            refine lv_iconst (v := 2) hx hb dX7_touches_30 (by decide) ?_
            refine lv_goto (tgt := 35) hx hb dX7_touches_31 (by decide) ?_
            refine lv_iadd hx hb dX7_touches_35 ?_
            refine lv_istore_n (lv' := [(1, .int (v1 + (2 : Int32))), (0, .ref (xAV X (0) 0)), (2, .int v2)]) hx hb dX7_touches_36 rfl hl (by decide) rfl (fun ls hl => ?_)
            refine lv_iinc (v := (v2 + (1 : Int32))) (lv' := [(2, .int (v2 + (1 : Int32))), (1, .int (v1 + (2 : Int32))), (0, .ref (xAV X (0) 0))]) hx hb dX7_touches_37 hl (k := 2) rfl rfl (by decide) rfl (fun ls hl => ?_)
            refine lv_goto (tgt := 4) hx hb dX7_touches_40 (by decide) ?_
            exact ih4 (v1 + (2 : Int32)) (v2 + (1 : Int32)) ls (lv_sub hl [2, 1, 0] rfl) h
  rw [X7_touches] at h
  refine lv_iconst (v := 0) hx hb dX7_touches_0 (by decide) ?_
  refine lv_istore_n (lv' := [(1, .int (0 : Int32)), (0, .ref (xAV X (0) 0))]) hx hb dX7_touches_1 rfl hl (by decide) rfl (fun ls hl => ?_)
  refine lv_iconst (v := 0) hx hb dX7_touches_2 (by decide) ?_
  refine lv_istore_n (lv' := [(2, .int (0 : Int32)), (1, .int (0 : Int32)), (0, .ref (xAV X (0) 0))]) hx hb dX7_touches_3 rfl hl (by decide) rfl (fun ls hl => ?_)
  exact hL4 500 (0 : Int32) (0 : Int32) ls (lv_sub hl [2, 1, 0] rfl) h
set_option maxRecDepth 100000 in
set_option maxHeartbeats 4000000 in
theorem c_X7_targetAt (l : Launch) (X : gX) (gi : Nat → Int32) (gl : Nat → Int64) (ga : Nat → Nat → Int32) (vS : Nat → Nat → Int32) (vF : Nat → Nat → Nat → Int32) (sN : Nat → Int32) (sF : Nat → Nat → Int32) (a1 : Int32) {o0 : Int32} (h : X7_targetAt vS vF a1 = some o0) : Met l yX7_targetAt (Cond.code yX7_targetAt cX7_targetAt 4 (some .int) :: gT) { frames := 1, cells := 0, slots := 0, locals := 21 } (va_Pc [.ref (xAV X (0) 0), .int a1] (gPre X gi gl ga vS vF sN sF)) (k2_QcV (.int o0)) 0 0 (fun _ => False) := by
  refine Met.ofW (cc := cX7_targetAt) (maxL := 4) (ret := (some .int)) (by decide) rfl ?_
  intro p e s m args below meth c s₁ B hml hv
  obtain ⟨rfl, hP, hK, hN, hZ⟩ := hv
  have hx := B.exec
  have hb := B.bytes
  have hr := B.returns
  have hts := atoms_spec (ws := (Cond.code yX7_targetAt cX7_targetAt 4 (some .int) :: gT)) B.pre
  have hT : ∀ w ∈ gT, w.before _ s = true := fun w hw => hts w (List.mem_cons_of_mem _ hw)
  have hown : s.vm.findClass RX7 = some m.cls := findClass_of_methodNamed B.named
  have hlocks := B.notSynchronized
  have hS : va_S (gA X) s.heap s.heap [] := va_S.rf
  have hl := lv_entry ([.ref (xAV X (0) 0), .int a1]) (n := 4) (Nat.le_of_ble_eq_true rfl)
  rw [lg_entry_eq]
  generalize (lg_sl ([.ref (xAV X (0) 0), .int a1]) ++ List.replicate (4 - (lg_sl ([.ref (xAV X (0) 0), .int a1])).length) Slot.unset).toArray = ls at hl ⊢
  have hl : lv_has ls 4 [(0, .ref (xAV X (0) 0)), (1, .int a1)] := hl
  have hL4 : ∀ (n4 : Nat) (v2 : Int32) (v3 : Int32) (ls : Array Slot), lv_has ls 4 [(0, .ref (xAV X (0) 0)), (2, .int v2), (3, .int v3)] → X7_targetAt_4 vS vF n4 v2 v3 = some o0 → W p l e (headSpec (Cond.code yX7_targetAt cX7_targetAt 4 (some .int) :: gT) { frames := 1, cells := 0, slots := 0, locals := 21 }).room s m [.ref (xAV X (0) 0), .int a1].toArray below meth c s.heap [] 0 0 (MQ below (k2_QcV (.int o0)) [.ref (xAV X (0) 0), .int a1].toArray s 0 0 (fun _ => False)) (F0 m 4 ls []) := by
    intro n4
    induction n4 with
    | zero =>
      intro v2 v3 ls hl h
      rw [X7_targetAt_4] at h
      cases h
    | succ n4 ih4 =>
      intro v2 v3 ls hl h
      rw [X7_targetAt_4] at h
      refine lv_iload_n hx hb dX7_targetAt_4 rfl (lv_at hl 2 rfl) ?_
      refine lv_aload_n hx hb dX7_targetAt_5 rfl (lv_at hl 0 rfl) ?_
      refine rg_V_people (q := (0)) hx hb hT hown hK hP (by decide : 0 < 4) w_82 dX7_targetAt_6 ?_
      refine lv_icmp_ge (tgt := 35) hx hb dX7_targetAt_9 (by decide) (fun c9 => ?_) (fun c9 => ?_)
      · replace h := if_t c9 h
        refine lv_bipush (v := 9) hx hb dX7_targetAt_35 (by decide) ?_
        cases h
        exact W.iret hx hb hr (fun t ht _ => ⟨rfl, ht⟩) (fun _ hq => by cases hq) dX7_targetAt_37
      · replace h := if_f c9 h
        refine lv_aload_n hx hb dX7_targetAt_12 rfl (lv_at hl 0 rfl) ?_
        refine lv_iload_n hx hb dX7_targetAt_13 rfl (lv_at hl 2 rfl) ?_
        obtain ⟨r14, hc14, h⟩ := Option.bind_eq_some_iff.mp h
        refine rcV (As := [.int v3]) (rest := []) ⟨hx, hb, hml, hown, hts⟩ (c_X7_isStuck l X gi gl ga vS vF sN sF v3 hc14) ⟨w_352, w_353, w_354, w_53, w_355⟩ hd_X7_isStuck rfl rfl ⟨(Nat.le_of_ble_eq_true rfl), (Nat.le_of_ble_eq_true rfl)⟩ ⟨Nat.zero_le _, Nat.zero_le _⟩ gPre_blind (va_recv hK hP (ci := 3) rfl (cG_v (by decide : 0 < 4))) (gPre_call hP hK hN hZ hS) rfl rfl hl.1 (Nat.le_of_ble_eq_true rfl) dX7_targetAt_14 ?_
        refine lv_if_eq (tgt := 29) hx hb dX7_targetAt_17 (by decide) (fun c17 => ?_) (fun c17 => ?_)
        · replace h := if_t c17 h
          refine lv_iinc (v := (v3 + (1 : Int32))) (lv' := [(3, .int (v3 + (1 : Int32))), (0, .ref (xAV X (0) 0)), (2, .int v2)]) hx hb dX7_targetAt_29 hl (k := 2) rfl rfl (by decide) rfl (fun ls hl => ?_)
          refine lv_goto (tgt := 4) hx hb dX7_targetAt_32 (by decide) ?_
          exact ih4 v2 (v3 + (1 : Int32)) ls (lv_sub hl [1, 2, 0] rfl) h
        · replace h := if_f c17 h
          refine lv_iload_n hx hb dX7_targetAt_20 rfl (lv_at hl 1 rfl) ?_
          refine lv_if_ne (tgt := 26) hx hb dX7_targetAt_21 (by decide) (fun c21 => ?_) (fun c21 => ?_)
          · replace h := if_f c21 h
            refine lv_iinc (v := (v2 + (-1 : Int32))) (lv' := [(2, .int (v2 + (-1 : Int32))), (0, .ref (xAV X (0) 0)), (3, .int v3)]) hx hb dX7_targetAt_26 hl (k := 1) rfl rfl (by decide) rfl (fun ls hl => ?_)
            refine lv_iinc (v := (v3 + (1 : Int32))) (lv' := [(3, .int (v3 + (1 : Int32))), (2, .int (v2 + (-1 : Int32))), (0, .ref (xAV X (0) 0))]) hx hb dX7_targetAt_29 hl (k := 2) rfl rfl (by decide) rfl (fun ls hl => ?_)
            refine lv_goto (tgt := 4) hx hb dX7_targetAt_32 (by decide) ?_
            exact ih4 (v2 + (-1 : Int32)) (v3 + (1 : Int32)) ls (lv_sub hl [2, 1, 0] rfl) h
          · replace h := if_t c21 h
            refine lv_iload_n hx hb dX7_targetAt_24 rfl (lv_at hl 2 rfl) ?_
            cases h
            exact W.iret hx hb hr (fun t ht _ => ⟨rfl, ht⟩) (fun _ hq => by cases hq) dX7_targetAt_25
  rw [X7_targetAt] at h
  refine lv_iload_n hx hb dX7_targetAt_0 rfl (lv_at hl 1 rfl) ?_
  refine lv_istore_n (lv' := [(2, .int a1), (0, .ref (xAV X (0) 0)), (1, .int a1)]) hx hb dX7_targetAt_1 rfl hl (by decide) rfl (fun ls hl => ?_)
  refine lv_iconst (v := 0) hx hb dX7_targetAt_2 (by decide) ?_
  refine lv_istore_n (lv' := [(3, .int (0 : Int32)), (2, .int a1), (0, .ref (xAV X (0) 0)), (1, .int a1)]) hx hb dX7_targetAt_3 rfl hl (by decide) rfl (fun ls hl => ?_)
  exact hL4 500 a1 (0 : Int32) ls (lv_sub hl [2, 1, 0] rfl) h
set_option maxRecDepth 100000 in
set_option maxHeartbeats 4000000 in
theorem c_X7_isFull (l : Launch) (X : gX) (gi : Nat → Int32) (gl : Nat → Int64) (ga : Nat → Nat → Int32) (vS : Nat → Nat → Int32) (vF : Nat → Nat → Nat → Int32) (sN : Nat → Int32) (sF : Nat → Nat → Int32) {o0 : Int32} (h : X7_isFull vS = some o0) : Met l yX7_isFull (Cond.code yX7_isFull cX7_isFull 1 (some .boolean) :: gT) { frames := 0, cells := 0, slots := 0, locals := 0 } (va_Pc [.ref (xAV X (0) 0)] (gPre X gi gl ga vS vF sN sF)) (k2_QcV (.int o0)) 0 0 (fun _ => False) := by
  refine Met.ofW (cc := cX7_isFull) (maxL := 1) (ret := (some .boolean)) (by decide) rfl ?_
  intro p e s m args below meth c s₁ B hml hv
  obtain ⟨rfl, hP, hK, hN, hZ⟩ := hv
  have hx := B.exec
  have hb := B.bytes
  have hr := B.returns
  have hts := atoms_spec (ws := (Cond.code yX7_isFull cX7_isFull 1 (some .boolean) :: gT)) B.pre
  have hT : ∀ w ∈ gT, w.before _ s = true := fun w hw => hts w (List.mem_cons_of_mem _ hw)
  have hown : s.vm.findClass RX7 = some m.cls := findClass_of_methodNamed B.named
  have hlocks := B.notSynchronized
  have hS : va_S (gA X) s.heap s.heap [] := va_S.rf
  have hl := lv_entry ([.ref (xAV X (0) 0)]) (n := 1) (Nat.le_of_ble_eq_true rfl)
  rw [lg_entry_eq]
  generalize (lg_sl ([.ref (xAV X (0) 0)]) ++ List.replicate (1 - (lg_sl ([.ref (xAV X (0) 0)])).length) Slot.unset).toArray = ls at hl ⊢
  have hl : lv_has ls 1 [(0, .ref (xAV X (0) 0))] := hl
  rw [X7_isFull] at h
  refine lv_aload_n hx hb dX7_isFull_0 rfl (lv_at hl 0 rfl) ?_
  refine rg_V_deeds (q := (0)) hx hb hT hown hK hP (by decide : 0 < 4) w_90 dX7_isFull_1 ?_
  refine lv_bipush (v := 60) hx hb dX7_isFull_4 (by decide) ?_
  refine lv_icmp_lt (tgt := 13) hx hb dX7_isFull_6 (by decide) (fun c6 => ?_) (fun c6 => ?_)
  · replace h := if_t c6 h
    refine lv_iconst (v := 0) hx hb dX7_isFull_13 (by decide) ?_
    cases h
    exact W.zret (ty := .boolean) hx hb hr rfl (fun t ht _ => ⟨rfl, ht⟩) (fun _ hq => by cases hq) dX7_isFull_14
  · replace h := if_f c6 h
    refine lv_iconst (v := 1) hx hb dX7_isFull_9 (by decide) ?_
    refine lv_goto (tgt := 14) hx hb dX7_isFull_10 (by decide) ?_
    cases h
    exact W.zret (ty := .boolean) hx hb hr rfl (fun t ht _ => ⟨rfl, ht⟩) (fun _ hq => by cases hq) dX7_isFull_14
set_option maxRecDepth 100000 in
set_option maxHeartbeats 4000000 in
theorem c_X7_addPerson (l : Launch) (X : gX) (gi : Nat → Int32) (gl : Nat → Int64) (ga : Nat → Nat → Int32) (vS : Nat → Nat → Int32) (vF : Nat → Nat → Nat → Int32) (sN : Nat → Int32) (sF : Nat → Nat → Int32) (a1 : Int32) (a2 : Int32) (a3 : Int32) {o_vS : Nat → Nat → Int32} {o_vF : Nat → Nat → Nat → Int32} (h : X7_addPerson a1 a2 a3 vS vF = some (o_vS, o_vF)) : Met l yX7_addPerson (Cond.code yX7_addPerson cX7_addPerson 4 none :: gT) { frames := 0, cells := 0, slots := 0, locals := 0 } (va_Pc [.ref (xAV X (0) 0), .int a1, .int a2, .int a3] (gPre X gi gl ga vS vF sN sF)) (wQ none (fun H => va_P X.1 vwCl (cG X gi gl ga o_vS o_vF sN sF) H) (gA X)) 0 0 (gA X) := by
  refine Met.ofW (cc := cX7_addPerson) (maxL := 4) (ret := none) (by decide) rfl ?_
  intro p e s m args below meth c s₁ B hml hv
  obtain ⟨rfl, hP, hK, hN, hZ⟩ := hv
  have hx := B.exec
  have hb := B.bytes
  have hr := B.returns
  have hts := atoms_spec (ws := (Cond.code yX7_addPerson cX7_addPerson 4 none :: gT)) B.pre
  have hT : ∀ w ∈ gT, w.before _ s = true := fun w hw => hts w (List.mem_cons_of_mem _ hw)
  have hown : s.vm.findClass RX7 = some m.cls := findClass_of_methodNamed B.named
  have hlocks := B.notSynchronized
  have hS : va_S (gA X) s.heap s.heap [] := va_S.rf
  have hl := lv_entry ([.ref (xAV X (0) 0), .int a1, .int a2, .int a3]) (n := 4) (Nat.le_of_ble_eq_true rfl)
  rw [lg_entry_eq]
  generalize (lg_sl ([.ref (xAV X (0) 0), .int a1, .int a2, .int a3]) ++ List.replicate (4 - (lg_sl ([.ref (xAV X (0) 0), .int a1, .int a2, .int a3])).length) Slot.unset).toArray = ls at hl ⊢
  have hl : lv_has ls 4 [(0, .ref (xAV X (0) 0)), (1, .int a1), (2, .int a2), (3, .int a3)] := hl
  rw [X7_addPerson] at h
  refine lv_aload_n hx hb dX7_addPerson_0 rfl (lv_at hl 0 rfl) ?_
  refine rg_V_people (q := (0)) hx hb hT hown hK hP (by decide : 0 < 4) w_82 dX7_addPerson_1 ?_
  refine lv_if_lt (tgt := 16) hx hb dX7_addPerson_4 (by decide) (fun c4 => ?_) (fun c4 => ?_)
  · replace h := if_t c4 h
    cases h
    exact W.vret hx hb hr (fun t ht _ => ⟨rfl, by rw [ht]; exact hP, hS.F ht⟩) hS.2.2 dX7_addPerson_16
  · replace h := if_f c4 h
    refine lv_aload_n hx hb dX7_addPerson_7 rfl (lv_at hl 0 rfl) ?_
    refine rg_V_people (q := (0)) hx hb hT hown hK hP (by decide : 0 < 4) w_82 dX7_addPerson_8 ?_
    refine lv_bipush (v := 7) hx hb dX7_addPerson_11 (by decide) ?_
    refine lv_icmp_lt (tgt := 17) hx hb dX7_addPerson_13 (by decide) (fun c13 => ?_) (fun c13 => ?_)
    · replace h := if_t c13 h
      refine lv_aload_n hx hb dX7_addPerson_17 rfl (lv_at hl 0 rfl) ?_
      refine rg_V_kinds (q := (0)) hx hb hT hown hK hP (by decide : 0 < 4) w_92 dX7_addPerson_18 ?_
      refine lv_aload_n hx hb dX7_addPerson_21 rfl (lv_at hl 0 rfl) ?_
      refine rg_V_people (q := (0)) hx hb hT hown hK hP (by decide : 0 < 4) w_82 dX7_addPerson_22 ?_
      refine lv_iload_n hx hb dX7_addPerson_25 rfl (lv_at hl 1 rfl) ?_
      obtain ⟨hi26, h⟩ := gd_e h
      refine rs_v0 (q := (0)) hx hb hK hP hN hS (by decide : 0 < 4) (ib_in hi26) dX7_addPerson_26 (fun H locs hP hS => ?_)
      generalize evF_26 : u2 vF (0) 0 (upd (vF (0) 0) (vS (0) 0).toNatClampNeg a1) = vF_26 at hP
      replace h := lt_g h evF_26
      refine lv_aload_n hx hb dX7_addPerson_27 rfl (lv_at hl 0 rfl) ?_
      refine rg_V_tastes (q := (0)) hx hb hT hown hK hP (by decide : 0 < 4) w_95 dX7_addPerson_28 ?_
      refine lv_aload_n hx hb dX7_addPerson_31 rfl (lv_at hl 0 rfl) ?_
      refine rg_V_people (q := (0)) hx hb hT hown hK hP (by decide : 0 < 4) w_82 dX7_addPerson_32 ?_
      refine lv_iload_n hx hb dX7_addPerson_35 rfl (lv_at hl 2 rfl) ?_
      obtain ⟨hi36, h⟩ := gd_e h
      refine rs_v1 (q := (0)) hx hb hK hP hN hS (by decide : 0 < 4) (ib_in hi36) dX7_addPerson_36 (fun H locs hP hS => ?_)
      generalize evF_36 : u2 vF_26 (0) 1 (upd (vF_26 (0) 1) (vS (0) 0).toNatClampNeg a2) = vF_36 at hP
      replace h := lt_g h evF_36
      refine lv_aload_n hx hb dX7_addPerson_37 rfl (lv_at hl 0 rfl) ?_
      refine rg_V_firstLaughs (q := (0)) hx hb hT hown hK hP (by decide : 0 < 4) w_97 dX7_addPerson_38 ?_
      refine lv_aload_n hx hb dX7_addPerson_41 rfl (lv_at hl 0 rfl) ?_
      refine rg_V_people (q := (0)) hx hb hT hown hK hP (by decide : 0 < 4) w_82 dX7_addPerson_42 ?_
      refine lv_iload_n hx hb dX7_addPerson_45 rfl (lv_at hl 3 rfl) ?_
      refine lv_ineg hx hb dX7_addPerson_46 ?_
      obtain ⟨hi47, h⟩ := gd_e h
      refine rs_v2 (q := (0)) hx hb hK hP hN hS (by decide : 0 < 4) (ib_in hi47) dX7_addPerson_47 (fun H locs hP hS => ?_)
      generalize evF_47 : u2 vF_36 (0) 2 (upd (vF_36 (0) 2) (vS (0) 0).toNatClampNeg (-a3)) = vF_47 at hP
      replace h := lt_g h evF_47
      refine lv_aload_n hx hb dX7_addPerson_48 rfl (lv_at hl 0 rfl) ?_
      refine lv_dup hx hb dX7_addPerson_49 rfl ?_
      refine rg_V_people (q := (0)) hx hb hT hown hK hP (by decide : 0 < 4) w_82 dX7_addPerson_50 ?_
      refine lv_iconst (v := 1) hx hb dX7_addPerson_53 (by decide) ?_
      refine lv_iadd hx hb dX7_addPerson_54 ?_
      refine rp_V_people (q := (0)) hx hb hT hown hK hP hN hS (by decide : 0 < 4) w_82 dX7_addPerson_55 (fun H locs hP hS => ?_)
      generalize evS_55 : u2 vS (0) 0 ((vS (0) 0) + (1 : Int32)) = vS_55 at hP
      replace h := lt_g h evS_55
      cases h
      exact W.vret hx hb hr (fun t ht _ => ⟨rfl, by rw [ht]; exact hP, hS.F ht⟩) hS.2.2 dX7_addPerson_58
    · replace h := if_f c13 h
      cases h
      exact W.vret hx hb hr (fun t ht _ => ⟨rfl, by rw [ht]; exact hP, hS.F ht⟩) hS.2.2 dX7_addPerson_16
set_option maxRecDepth 100000 in
set_option maxHeartbeats 4000000 in
theorem c_X7_freeAll (l : Launch) (X : gX) (gi : Nat → Int32) (gl : Nat → Int64) (ga : Nat → Nat → Int32) (vS : Nat → Nat → Int32) (vF : Nat → Nat → Nat → Int32) (sN : Nat → Int32) (sF : Nat → Nat → Int32) {o_vF : Nat → Nat → Nat → Int32} (h : X7_freeAll vF = some o_vF) : Met l yX7_freeAll (Cond.code yX7_freeAll cX7_freeAll 1 none :: gT) { frames := 1, cells := 0, slots := 0, locals := 23 } (va_Pc [.ref (xAV X (0) 0)] (gPre X gi gl ga vS vF sN sF)) (wQ none (fun H => va_P X.1 vwCl (cG X gi gl ga vS o_vF sN sF) H) (gA X)) 0 0 (gA X) := by
  refine Met.ofW (cc := cX7_freeAll) (maxL := 1) (ret := none) (by decide) rfl ?_
  intro p e s m args below meth c s₁ B hml hv
  obtain ⟨rfl, hP, hK, hN, hZ⟩ := hv
  have hx := B.exec
  have hb := B.bytes
  have hr := B.returns
  have hts := atoms_spec (ws := (Cond.code yX7_freeAll cX7_freeAll 1 none :: gT)) B.pre
  have hT : ∀ w ∈ gT, w.before _ s = true := fun w hw => hts w (List.mem_cons_of_mem _ hw)
  have hown : s.vm.findClass RX7 = some m.cls := findClass_of_methodNamed B.named
  have hlocks := B.notSynchronized
  have hS : va_S (gA X) s.heap s.heap [] := va_S.rf
  have hl := lv_entry ([.ref (xAV X (0) 0)]) (n := 1) (Nat.le_of_ble_eq_true rfl)
  rw [lg_entry_eq]
  generalize (lg_sl ([.ref (xAV X (0) 0)]) ++ List.replicate (1 - (lg_sl ([.ref (xAV X (0) 0)])).length) Slot.unset).toArray = ls at hl ⊢
  have hl : lv_has ls 1 [(0, .ref (xAV X (0) 0))] := hl
  rw [X7_freeAll] at h
  refine lv_aload_n hx hb dX7_freeAll_0 rfl (lv_at hl 0 rfl) ?_
  refine rg_V_holds (q := (0)) hx hb hT hown hK hP (by decide : 0 < 4) w_99 dX7_freeAll_1 ?_
  refine lv_bipush (v := -9) hx hb dX7_freeAll_4 (by decide) ?_
  obtain ⟨vF_6, hc6, h⟩ := Option.bind_eq_some_iff.mp h
  refine wcS (As := [.ref (xAV X (0) 5), .int (-9 : Int32)]) (rest := []) ⟨hx, hb, hml, hown, hts⟩ (c_J7_fill_53178_v4 l X gi gl ga vS vF sN sF (-9 : Int32) hc6) ⟨w_323, w_236, w_59, w_237⟩ hd_J7_fill_53178 rfl rfl ⟨(Nat.le_of_ble_eq_true rfl), (Nat.le_of_ble_eq_true rfl)⟩ ⟨Nat.zero_le _, Nat.zero_le _⟩ gPre_blind (gPre_call hP hK hN hZ hS) hS (fun _ h => h) rfl rfl hl.1 (Nat.le_of_ble_eq_true rfl) dX7_freeAll_6 (fun H locs hP _ hS => ?_)
  have hP : va_P X.1 vwCl (cG X gi gl ga vS vF_6 sN sF) H := hP
  refine W.eq (g2 := F0 m 9 ls []) rfl ?_
  refine lv_aload_n hx hb dX7_freeAll_9 rfl (lv_at hl 0 rfl) ?_
  refine rg_V_hands (q := (0)) hx hb hT hown hK hP (by decide : 0 < 4) w_102 dX7_freeAll_10 ?_
  refine lv_bipush (v := -9) hx hb dX7_freeAll_13 (by decide) ?_
  obtain ⟨vF_15, hc15, h⟩ := Option.bind_eq_some_iff.mp h
  refine wcS (As := [.ref (xAV X (0) 6), .int (-9 : Int32)]) (rest := []) ⟨hx, hb, hml, hown, hts⟩ (c_J7_fill_53178_v5 l X gi gl ga vS vF_6 sN sF (-9 : Int32) hc15) ⟨w_323, w_236, w_59, w_237⟩ hd_J7_fill_53178 rfl rfl ⟨(Nat.le_of_ble_eq_true rfl), (Nat.le_of_ble_eq_true rfl)⟩ ⟨Nat.zero_le _, Nat.zero_le _⟩ gPre_blind (gPre_call hP hK hN hZ hS) hS (fun _ h => h) rfl rfl hl.1 (Nat.le_of_ble_eq_true rfl) dX7_freeAll_15 (fun H locs hP _ hS => ?_)
  have hP : va_P X.1 vwCl (cG X gi gl ga vS vF_15 sN sF) H := hP
  refine W.eq (g2 := F0 m 18 ls []) rfl ?_
  cases h
  exact W.vret hx hb hr (fun t ht _ => ⟨rfl, by rw [ht]; exact hP, hS.F ht⟩) hS.2.2 dX7_freeAll_18
set_option maxRecDepth 100000 in
set_option maxHeartbeats 4000000 in
theorem c_X7_startAnew (l : Launch) (X : gX) (gi : Nat → Int32) (gl : Nat → Int64) (ga : Nat → Nat → Int32) (vS : Nat → Nat → Int32) (vF : Nat → Nat → Nat → Int32) (sN : Nat → Int32) (sF : Nat → Nat → Int32) {o_vS : Nat → Nat → Int32} {o_vF : Nat → Nat → Nat → Int32} (h : X7_startAnew vS vF = some (o_vS, o_vF)) : Met l yX7_startAnew (Cond.code yX7_startAnew cX7_startAnew 1 none :: gT) { frames := 2, cells := 0, slots := 0, locals := 60 } (va_Pc [.ref (xAV X (0) 0)] (gPre X gi gl ga vS vF sN sF)) (wQ none (fun H => va_P X.1 vwCl (cG X gi gl ga o_vS o_vF sN sF) H) (gA X)) 0 0 (gA X) := by
  refine Met.ofW (cc := cX7_startAnew) (maxL := 1) (ret := none) (by decide) rfl ?_
  intro p e s m args below meth c s₁ B hml hv
  obtain ⟨rfl, hP, hK, hN, hZ⟩ := hv
  have hx := B.exec
  have hb := B.bytes
  have hr := B.returns
  have hts := atoms_spec (ws := (Cond.code yX7_startAnew cX7_startAnew 1 none :: gT)) B.pre
  have hT : ∀ w ∈ gT, w.before _ s = true := fun w hw => hts w (List.mem_cons_of_mem _ hw)
  have hown : s.vm.findClass RX7 = some m.cls := findClass_of_methodNamed B.named
  have hlocks := B.notSynchronized
  have hS : va_S (gA X) s.heap s.heap [] := va_S.rf
  have hl := lv_entry ([.ref (xAV X (0) 0)]) (n := 1) (Nat.le_of_ble_eq_true rfl)
  rw [lg_entry_eq]
  generalize (lg_sl ([.ref (xAV X (0) 0)]) ++ List.replicate (1 - (lg_sl ([.ref (xAV X (0) 0)])).length) Slot.unset).toArray = ls at hl ⊢
  have hl : lv_has ls 1 [(0, .ref (xAV X (0) 0))] := hl
  rw [X7_startAnew] at h
  refine lv_aload_n hx hb dX7_startAnew_0 rfl (lv_at hl 0 rfl) ?_
  refine lv_iconst (v := 0) hx hb dX7_startAnew_1 (by decide) ?_
  refine rp_V_day (q := (0)) hx hb hT hown hK hP hN hS (by decide : 0 < 4) w_88 dX7_startAnew_2 (fun H locs hP hS => ?_)
  generalize evS_2 : u2 vS (0) 1 (0 : Int32) = vS_2 at hP
  replace h := lt_g h evS_2
  refine lv_aload_n hx hb dX7_startAnew_5 rfl (lv_at hl 0 rfl) ?_
  refine lv_iconst (v := 0) hx hb dX7_startAnew_6 (by decide) ?_
  refine rp_V_deeds (q := (0)) hx hb hT hown hK hP hN hS (by decide : 0 < 4) w_90 dX7_startAnew_7 (fun H locs hP hS => ?_)
  generalize evS_7 : u2 vS_2 (0) 2 (0 : Int32) = vS_7 at hP
  replace h := lt_g h evS_7
  refine lv_aload_n hx hb dX7_startAnew_10 rfl (lv_at hl 0 rfl) ?_
  refine rg_V_firstLaughs (q := (0)) hx hb hT hown hK hP (by decide : 0 < 4) w_97 dX7_startAnew_11 ?_
  refine lv_iconst (v := 0) hx hb dX7_startAnew_14 (by decide) ?_
  refine lv_aload_n hx hb dX7_startAnew_15 rfl (lv_at hl 0 rfl) ?_
  refine rg_V_laughs (q := (0)) hx hb hT hown hK hP (by decide : 0 < 4) w_98 dX7_startAnew_16 ?_
  refine lv_iconst (v := 0) hx hb dX7_startAnew_19 (by decide) ?_
  refine lv_bipush (v := 7) hx hb dX7_startAnew_20 (by decide) ?_
  obtain ⟨hi22, h⟩ := gd_e h
  obtain ⟨ha22, hb22, hc22, hd22, he22⟩ := cpb_e hi22
  refine va_copyi hx hb (hml.trans hl.1.symm) hown (hT _ w_318) (hT _ w_268) (hT _ w_267) (hT _ w_60) hK hP (gD hN) hS (11 + 11 * (0) + 3) (11 + 11 * (0) + 4) 0 0 (cG_va2 (by decide : 0 < 4)) (cG_va3 (by decide : 0 < 4)) rfl rfl rfl ha22 hb22 hc22 hd22 he22 (fun _ _ => rfl) (Nat.le_of_ble_eq_true rfl) (Nat.le_of_ble_eq_true rfl) dX7_startAnew_22 (fun H locs hP _ hS => ?_)
  have hP : va_P X.1 vwCl (cG X gi gl ga vS_7 (u2 vF (0) 3 (va_cpy (vF (0) 2) (vF (0) 3) (0 : Int32).toNatClampNeg (0 : Int32).toNatClampNeg (7 : Int32).toNatClampNeg)) sN sF) H := (cG_pva3 (by decide : 0 < 4)) ▸ hP
  generalize evF_22 : u2 vF (0) 3 (va_cpy (vF (0) 2) (vF (0) 3) (0 : Int32).toNatClampNeg (0 : Int32).toNatClampNeg (7 : Int32).toNatClampNeg) = vF_22 at hP
  replace h := lt_g h evF_22
  refine lv_aload_n hx hb dX7_startAnew_25 rfl (lv_at hl 0 rfl) ?_
  obtain ⟨vF_26, hc26, h⟩ := Option.bind_eq_some_iff.mp h
  refine wcV (As := []) (rest := []) ⟨hx, hb, hml, hown, hts⟩ (c_X7_freeAll l X gi gl ga vS_7 vF_22 sN sF hc26) ⟨w_319, w_321, w_1, w_53, w_322⟩ hd_X7_freeAll rfl rfl ⟨(Nat.le_of_ble_eq_true rfl), (Nat.le_of_ble_eq_true rfl)⟩ ⟨Nat.zero_le _, Nat.zero_le _⟩ gPre_blind (va_recv hK hP (ci := 3) rfl (cG_v (by decide : 0 < 4))) (gPre_call hP hK hN hZ hS) hS (fun _ h => h) rfl rfl hl.1 (Nat.le_of_ble_eq_true rfl) dX7_startAnew_26 (fun H locs hP _ hS => ?_)
  have hP : va_P X.1 vwCl (cG X gi gl ga vS_7 vF_26 sN sF) H := hP
  refine W.eq (g2 := F0 m 29 ls []) rfl ?_
  cases h
  exact W.vret hx hb hr (fun t ht _ => ⟨rfl, by rw [ht]; exact hP, hS.F ht⟩) hS.2.2 dX7_startAnew_29
set_option maxRecDepth 100000 in
set_option maxHeartbeats 4000000 in
theorem c_X7_become (l : Launch) (X : gX) (gi : Nat → Int32) (gl : Nat → Int64) (ga : Nat → Nat → Int32) (vS : Nat → Nat → Int32) (vF : Nat → Nat → Nat → Int32) (sN : Nat → Int32) (sF : Nat → Nat → Int32) (q : Nat) (hq : q < 4) (u : Nat) (hu : u < 4) {o_vS : Nat → Nat → Int32} {o_vF : Nat → Nat → Nat → Int32} (h : X7_become q u vS vF = some (o_vS, o_vF)) : Met l yX7_become (Cond.code yX7_become cX7_become 2 none :: gT) { frames := 1, cells := 0, slots := 0, locals := 60 } (va_Pc [.ref (xAV X q 0), .ref (xAV X u 0)] (gPre X gi gl ga vS vF sN sF)) (wQ none (fun H => va_P X.1 vwCl (cG X gi gl ga o_vS o_vF sN sF) H) (gA X)) 0 0 (gA X) := by
  refine Met.ofW (cc := cX7_become) (maxL := 2) (ret := none) (by decide) rfl ?_
  intro p e s m args below meth c s₁ B hml hv
  obtain ⟨rfl, hP, hK, hN, hZ⟩ := hv
  have hx := B.exec
  have hb := B.bytes
  have hr := B.returns
  have hts := atoms_spec (ws := (Cond.code yX7_become cX7_become 2 none :: gT)) B.pre
  have hT : ∀ w ∈ gT, w.before _ s = true := fun w hw => hts w (List.mem_cons_of_mem _ hw)
  have hown : s.vm.findClass RX7 = some m.cls := findClass_of_methodNamed B.named
  have hlocks := B.notSynchronized
  have hS : va_S (gA X) s.heap s.heap [] := va_S.rf
  have hl := lv_entry ([.ref (xAV X q 0), .ref (xAV X u 0)]) (n := 2) (Nat.le_of_ble_eq_true rfl)
  rw [lg_entry_eq]
  generalize (lg_sl ([.ref (xAV X q 0), .ref (xAV X u 0)]) ++ List.replicate (2 - (lg_sl ([.ref (xAV X q 0), .ref (xAV X u 0)])).length) Slot.unset).toArray = ls at hl ⊢
  have hl : lv_has ls 2 [(0, .ref (xAV X q 0)), (1, .ref (xAV X u 0))] := hl
  rw [X7_become] at h
  refine lv_aload_n hx hb dX7_become_0 rfl (lv_at hl 0 rfl) ?_
  refine lv_aload_n hx hb dX7_become_1 rfl (lv_at hl 1 rfl) ?_
  refine rg_V_people (q := u) hx hb hT hown hK hP hu w_82 dX7_become_2 ?_
  refine rp_V_people (q := q) hx hb hT hown hK hP hN hS hq w_82 dX7_become_5 (fun H locs hP hS => ?_)
  generalize evS_5 : u2 vS q 0 (vS u 0) = vS_5 at hP
  replace h := lt_g h evS_5
  refine lv_aload_n hx hb dX7_become_8 rfl (lv_at hl 0 rfl) ?_
  refine lv_aload_n hx hb dX7_become_9 rfl (lv_at hl 1 rfl) ?_
  refine rg_V_day (q := u) hx hb hT hown hK hP hu w_88 dX7_become_10 ?_
  refine rp_V_day (q := q) hx hb hT hown hK hP hN hS hq w_88 dX7_become_13 (fun H locs hP hS => ?_)
  generalize evS_13 : u2 vS_5 q 1 (vS_5 u 1) = vS_13 at hP
  replace h := lt_g h evS_13
  refine lv_aload_n hx hb dX7_become_16 rfl (lv_at hl 0 rfl) ?_
  refine lv_aload_n hx hb dX7_become_17 rfl (lv_at hl 1 rfl) ?_
  refine rg_V_deeds (q := u) hx hb hT hown hK hP hu w_90 dX7_become_18 ?_
  refine rp_V_deeds (q := q) hx hb hT hown hK hP hN hS hq w_90 dX7_become_21 (fun H locs hP hS => ?_)
  generalize evS_21 : u2 vS_13 q 2 (vS_13 u 2) = vS_21 at hP
  replace h := lt_g h evS_21
  refine lv_aload_n hx hb dX7_become_24 rfl (lv_at hl 1 rfl) ?_
  refine rg_V_kinds (q := u) hx hb hT hown hK hP hu w_92 dX7_become_25 ?_
  refine lv_iconst (v := 0) hx hb dX7_become_28 (by decide) ?_
  refine lv_aload_n hx hb dX7_become_29 rfl (lv_at hl 0 rfl) ?_
  refine rg_V_kinds (q := q) hx hb hT hown hK hP hq w_92 dX7_become_30 ?_
  refine lv_iconst (v := 0) hx hb dX7_become_33 (by decide) ?_
  refine lv_bipush (v := 7) hx hb dX7_become_34 (by decide) ?_
  obtain ⟨hi36, h⟩ := gd_e h
  obtain ⟨ha36, hb36, hc36, hd36, he36⟩ := cpb_e hi36
  refine va_copyi hx hb (hml.trans hl.1.symm) hown (hT _ w_318) (hT _ w_268) (hT _ w_267) (hT _ w_60) hK hP (gD hN) hS (11 + 11 * u + 1) (11 + 11 * q + 1) 0 0 (cG_va0 hu) (cG_va0 hq) rfl rfl rfl ha36 hb36 hc36 hd36 he36 (fun _ _ => rfl) (Nat.le_of_ble_eq_true rfl) (Nat.le_of_ble_eq_true rfl) dX7_become_36 (fun H locs hP _ hS => ?_)
  have hP : va_P X.1 vwCl (cG X gi gl ga vS_21 (u2 vF q 0 (va_cpy (vF u 0) (vF q 0) (0 : Int32).toNatClampNeg (0 : Int32).toNatClampNeg (7 : Int32).toNatClampNeg)) sN sF) H := (cG_pva0 hq) ▸ hP
  generalize evF_36 : u2 vF q 0 (va_cpy (vF u 0) (vF q 0) (0 : Int32).toNatClampNeg (0 : Int32).toNatClampNeg (7 : Int32).toNatClampNeg) = vF_36 at hP
  replace h := lt_g h evF_36
  refine lv_aload_n hx hb dX7_become_39 rfl (lv_at hl 1 rfl) ?_
  refine rg_V_tastes (q := u) hx hb hT hown hK hP hu w_95 dX7_become_40 ?_
  refine lv_iconst (v := 0) hx hb dX7_become_43 (by decide) ?_
  refine lv_aload_n hx hb dX7_become_44 rfl (lv_at hl 0 rfl) ?_
  refine rg_V_tastes (q := q) hx hb hT hown hK hP hq w_95 dX7_become_45 ?_
  refine lv_iconst (v := 0) hx hb dX7_become_48 (by decide) ?_
  refine lv_bipush (v := 7) hx hb dX7_become_49 (by decide) ?_
  obtain ⟨hi51, h⟩ := gd_e h
  obtain ⟨ha51, hb51, hc51, hd51, he51⟩ := cpb_e hi51
  refine va_copyi hx hb (hml.trans hl.1.symm) hown (hT _ w_318) (hT _ w_268) (hT _ w_267) (hT _ w_60) hK hP (gD hN) hS (11 + 11 * u + 2) (11 + 11 * q + 2) 0 0 (cG_va1 hu) (cG_va1 hq) rfl rfl rfl ha51 hb51 hc51 hd51 he51 (fun _ _ => rfl) (Nat.le_of_ble_eq_true rfl) (Nat.le_of_ble_eq_true rfl) dX7_become_51 (fun H locs hP _ hS => ?_)
  have hP : va_P X.1 vwCl (cG X gi gl ga vS_21 (u2 vF_36 q 1 (va_cpy (vF_36 u 1) (vF_36 q 1) (0 : Int32).toNatClampNeg (0 : Int32).toNatClampNeg (7 : Int32).toNatClampNeg)) sN sF) H := (cG_pva1 hq) ▸ hP
  generalize evF_51 : u2 vF_36 q 1 (va_cpy (vF_36 u 1) (vF_36 q 1) (0 : Int32).toNatClampNeg (0 : Int32).toNatClampNeg (7 : Int32).toNatClampNeg) = vF_51 at hP
  replace h := lt_g h evF_51
  refine lv_aload_n hx hb dX7_become_54 rfl (lv_at hl 1 rfl) ?_
  refine rg_V_firstLaughs (q := u) hx hb hT hown hK hP hu w_97 dX7_become_55 ?_
  refine lv_iconst (v := 0) hx hb dX7_become_58 (by decide) ?_
  refine lv_aload_n hx hb dX7_become_59 rfl (lv_at hl 0 rfl) ?_
  refine rg_V_firstLaughs (q := q) hx hb hT hown hK hP hq w_97 dX7_become_60 ?_
  refine lv_iconst (v := 0) hx hb dX7_become_63 (by decide) ?_
  refine lv_bipush (v := 7) hx hb dX7_become_64 (by decide) ?_
  obtain ⟨hi66, h⟩ := gd_e h
  obtain ⟨ha66, hb66, hc66, hd66, he66⟩ := cpb_e hi66
  refine va_copyi hx hb (hml.trans hl.1.symm) hown (hT _ w_318) (hT _ w_268) (hT _ w_267) (hT _ w_60) hK hP (gD hN) hS (11 + 11 * u + 3) (11 + 11 * q + 3) 0 0 (cG_va2 hu) (cG_va2 hq) rfl rfl rfl ha66 hb66 hc66 hd66 he66 (fun _ _ => rfl) (Nat.le_of_ble_eq_true rfl) (Nat.le_of_ble_eq_true rfl) dX7_become_66 (fun H locs hP _ hS => ?_)
  have hP : va_P X.1 vwCl (cG X gi gl ga vS_21 (u2 vF_51 q 2 (va_cpy (vF_51 u 2) (vF_51 q 2) (0 : Int32).toNatClampNeg (0 : Int32).toNatClampNeg (7 : Int32).toNatClampNeg)) sN sF) H := (cG_pva2 hq) ▸ hP
  generalize evF_66 : u2 vF_51 q 2 (va_cpy (vF_51 u 2) (vF_51 q 2) (0 : Int32).toNatClampNeg (0 : Int32).toNatClampNeg (7 : Int32).toNatClampNeg) = vF_66 at hP
  replace h := lt_g h evF_66
  refine lv_aload_n hx hb dX7_become_69 rfl (lv_at hl 1 rfl) ?_
  refine rg_V_laughs (q := u) hx hb hT hown hK hP hu w_98 dX7_become_70 ?_
  refine lv_iconst (v := 0) hx hb dX7_become_73 (by decide) ?_
  refine lv_aload_n hx hb dX7_become_74 rfl (lv_at hl 0 rfl) ?_
  refine rg_V_laughs (q := q) hx hb hT hown hK hP hq w_98 dX7_become_75 ?_
  refine lv_iconst (v := 0) hx hb dX7_become_78 (by decide) ?_
  refine lv_bipush (v := 7) hx hb dX7_become_79 (by decide) ?_
  obtain ⟨hi81, h⟩ := gd_e h
  obtain ⟨ha81, hb81, hc81, hd81, he81⟩ := cpb_e hi81
  refine va_copyi hx hb (hml.trans hl.1.symm) hown (hT _ w_318) (hT _ w_268) (hT _ w_267) (hT _ w_60) hK hP (gD hN) hS (11 + 11 * u + 4) (11 + 11 * q + 4) 0 0 (cG_va3 hu) (cG_va3 hq) rfl rfl rfl ha81 hb81 hc81 hd81 he81 (fun _ _ => rfl) (Nat.le_of_ble_eq_true rfl) (Nat.le_of_ble_eq_true rfl) dX7_become_81 (fun H locs hP _ hS => ?_)
  have hP : va_P X.1 vwCl (cG X gi gl ga vS_21 (u2 vF_66 q 3 (va_cpy (vF_66 u 3) (vF_66 q 3) (0 : Int32).toNatClampNeg (0 : Int32).toNatClampNeg (7 : Int32).toNatClampNeg)) sN sF) H := (cG_pva3 hq) ▸ hP
  generalize evF_81 : u2 vF_66 q 3 (va_cpy (vF_66 u 3) (vF_66 q 3) (0 : Int32).toNatClampNeg (0 : Int32).toNatClampNeg (7 : Int32).toNatClampNeg) = vF_81 at hP
  replace h := lt_g h evF_81
  refine lv_aload_n hx hb dX7_become_84 rfl (lv_at hl 1 rfl) ?_
  refine rg_V_holds (q := u) hx hb hT hown hK hP hu w_99 dX7_become_85 ?_
  refine lv_iconst (v := 0) hx hb dX7_become_88 (by decide) ?_
  refine lv_aload_n hx hb dX7_become_89 rfl (lv_at hl 0 rfl) ?_
  refine rg_V_holds (q := q) hx hb hT hown hK hP hq w_99 dX7_become_90 ?_
  refine lv_iconst (v := 0) hx hb dX7_become_93 (by decide) ?_
  refine lv_bipush (v := 7) hx hb dX7_become_94 (by decide) ?_
  obtain ⟨hi96, h⟩ := gd_e h
  obtain ⟨ha96, hb96, hc96, hd96, he96⟩ := cpb_e hi96
  refine va_copyi hx hb (hml.trans hl.1.symm) hown (hT _ w_318) (hT _ w_268) (hT _ w_267) (hT _ w_60) hK hP (gD hN) hS (11 + 11 * u + 5) (11 + 11 * q + 5) 0 0 (cG_va4 hu) (cG_va4 hq) rfl rfl rfl ha96 hb96 hc96 hd96 he96 (fun _ _ => rfl) (Nat.le_of_ble_eq_true rfl) (Nat.le_of_ble_eq_true rfl) dX7_become_96 (fun H locs hP _ hS => ?_)
  have hP : va_P X.1 vwCl (cG X gi gl ga vS_21 (u2 vF_81 q 4 (va_cpy (vF_81 u 4) (vF_81 q 4) (0 : Int32).toNatClampNeg (0 : Int32).toNatClampNeg (7 : Int32).toNatClampNeg)) sN sF) H := (cG_pva4 hq) ▸ hP
  generalize evF_96 : u2 vF_81 q 4 (va_cpy (vF_81 u 4) (vF_81 q 4) (0 : Int32).toNatClampNeg (0 : Int32).toNatClampNeg (7 : Int32).toNatClampNeg) = vF_96 at hP
  replace h := lt_g h evF_96
  refine lv_aload_n hx hb dX7_become_99 rfl (lv_at hl 1 rfl) ?_
  refine rg_V_hands (q := u) hx hb hT hown hK hP hu w_102 dX7_become_100 ?_
  refine lv_iconst (v := 0) hx hb dX7_become_103 (by decide) ?_
  refine lv_aload_n hx hb dX7_become_104 rfl (lv_at hl 0 rfl) ?_
  refine rg_V_hands (q := q) hx hb hT hown hK hP hq w_102 dX7_become_105 ?_
  refine lv_iconst (v := 0) hx hb dX7_become_108 (by decide) ?_
  refine lv_bipush (v := 7) hx hb dX7_become_109 (by decide) ?_
  obtain ⟨hi111, h⟩ := gd_e h
  obtain ⟨ha111, hb111, hc111, hd111, he111⟩ := cpb_e hi111
  refine va_copyi hx hb (hml.trans hl.1.symm) hown (hT _ w_318) (hT _ w_268) (hT _ w_267) (hT _ w_60) hK hP (gD hN) hS (11 + 11 * u + 6) (11 + 11 * q + 6) 0 0 (cG_va5 hu) (cG_va5 hq) rfl rfl rfl ha111 hb111 hc111 hd111 he111 (fun _ _ => rfl) (Nat.le_of_ble_eq_true rfl) (Nat.le_of_ble_eq_true rfl) dX7_become_111 (fun H locs hP _ hS => ?_)
  have hP : va_P X.1 vwCl (cG X gi gl ga vS_21 (u2 vF_96 q 5 (va_cpy (vF_96 u 5) (vF_96 q 5) (0 : Int32).toNatClampNeg (0 : Int32).toNatClampNeg (7 : Int32).toNatClampNeg)) sN sF) H := (cG_pva5 hq) ▸ hP
  generalize evF_111 : u2 vF_96 q 5 (va_cpy (vF_96 u 5) (vF_96 q 5) (0 : Int32).toNatClampNeg (0 : Int32).toNatClampNeg (7 : Int32).toNatClampNeg) = vF_111 at hP
  replace h := lt_g h evF_111
  refine lv_aload_n hx hb dX7_become_114 rfl (lv_at hl 1 rfl) ?_
  refine rg_V_deedSorts (q := u) hx hb hT hown hK hP hu w_104 dX7_become_115 ?_
  refine lv_iconst (v := 0) hx hb dX7_become_118 (by decide) ?_
  refine lv_aload_n hx hb dX7_become_119 rfl (lv_at hl 0 rfl) ?_
  refine rg_V_deedSorts (q := q) hx hb hT hown hK hP hq w_104 dX7_become_120 ?_
  refine lv_iconst (v := 0) hx hb dX7_become_123 (by decide) ?_
  refine lv_bipush (v := 60) hx hb dX7_become_124 (by decide) ?_
  obtain ⟨hi126, h⟩ := gd_e h
  obtain ⟨ha126, hb126, hc126, hd126, he126⟩ := cpb_e hi126
  refine va_copyi hx hb (hml.trans hl.1.symm) hown (hT _ w_318) (hT _ w_268) (hT _ w_267) (hT _ w_60) hK hP (gD hN) hS (11 + 11 * u + 7) (11 + 11 * q + 7) 0 0 (cG_va6 hu) (cG_va6 hq) rfl rfl rfl ha126 hb126 hc126 hd126 he126 (fun _ _ => rfl) (Nat.le_of_ble_eq_true rfl) (Nat.le_of_ble_eq_true rfl) dX7_become_126 (fun H locs hP _ hS => ?_)
  have hP : va_P X.1 vwCl (cG X gi gl ga vS_21 (u2 vF_111 q 6 (va_cpy (vF_111 u 6) (vF_111 q 6) (0 : Int32).toNatClampNeg (0 : Int32).toNatClampNeg (60 : Int32).toNatClampNeg)) sN sF) H := (cG_pva6 hq) ▸ hP
  generalize evF_126 : u2 vF_111 q 6 (va_cpy (vF_111 u 6) (vF_111 q 6) (0 : Int32).toNatClampNeg (0 : Int32).toNatClampNeg (60 : Int32).toNatClampNeg) = vF_126 at hP
  replace h := lt_g h evF_126
  refine lv_aload_n hx hb dX7_become_129 rfl (lv_at hl 1 rfl) ?_
  refine rg_V_deedWho (q := u) hx hb hT hown hK hP hu w_105 dX7_become_130 ?_
  refine lv_iconst (v := 0) hx hb dX7_become_133 (by decide) ?_
  refine lv_aload_n hx hb dX7_become_134 rfl (lv_at hl 0 rfl) ?_
  refine rg_V_deedWho (q := q) hx hb hT hown hK hP hq w_105 dX7_become_135 ?_
  refine lv_iconst (v := 0) hx hb dX7_become_138 (by decide) ?_
  refine lv_bipush (v := 60) hx hb dX7_become_139 (by decide) ?_
  obtain ⟨hi141, h⟩ := gd_e h
  obtain ⟨ha141, hb141, hc141, hd141, he141⟩ := cpb_e hi141
  refine va_copyi hx hb (hml.trans hl.1.symm) hown (hT _ w_318) (hT _ w_268) (hT _ w_267) (hT _ w_60) hK hP (gD hN) hS (11 + 11 * u + 8) (11 + 11 * q + 8) 0 0 (cG_va7 hu) (cG_va7 hq) rfl rfl rfl ha141 hb141 hc141 hd141 he141 (fun _ _ => rfl) (Nat.le_of_ble_eq_true rfl) (Nat.le_of_ble_eq_true rfl) dX7_become_141 (fun H locs hP _ hS => ?_)
  have hP : va_P X.1 vwCl (cG X gi gl ga vS_21 (u2 vF_126 q 7 (va_cpy (vF_126 u 7) (vF_126 q 7) (0 : Int32).toNatClampNeg (0 : Int32).toNatClampNeg (60 : Int32).toNatClampNeg)) sN sF) H := (cG_pva7 hq) ▸ hP
  generalize evF_141 : u2 vF_126 q 7 (va_cpy (vF_126 u 7) (vF_126 q 7) (0 : Int32).toNatClampNeg (0 : Int32).toNatClampNeg (60 : Int32).toNatClampNeg) = vF_141 at hP
  replace h := lt_g h evF_141
  refine lv_aload_n hx hb dX7_become_144 rfl (lv_at hl 1 rfl) ?_
  refine rg_V_deedHands (q := u) hx hb hT hown hK hP hu w_106 dX7_become_145 ?_
  refine lv_iconst (v := 0) hx hb dX7_become_148 (by decide) ?_
  refine lv_aload_n hx hb dX7_become_149 rfl (lv_at hl 0 rfl) ?_
  refine rg_V_deedHands (q := q) hx hb hT hown hK hP hq w_106 dX7_become_150 ?_
  refine lv_iconst (v := 0) hx hb dX7_become_153 (by decide) ?_
  refine lv_bipush (v := 60) hx hb dX7_become_154 (by decide) ?_
  obtain ⟨hi156, h⟩ := gd_e h
  obtain ⟨ha156, hb156, hc156, hd156, he156⟩ := cpb_e hi156
  refine va_copyi hx hb (hml.trans hl.1.symm) hown (hT _ w_318) (hT _ w_268) (hT _ w_267) (hT _ w_60) hK hP (gD hN) hS (11 + 11 * u + 9) (11 + 11 * q + 9) 0 0 (cG_va8 hu) (cG_va8 hq) rfl rfl rfl ha156 hb156 hc156 hd156 he156 (fun _ _ => rfl) (Nat.le_of_ble_eq_true rfl) (Nat.le_of_ble_eq_true rfl) dX7_become_156 (fun H locs hP _ hS => ?_)
  have hP : va_P X.1 vwCl (cG X gi gl ga vS_21 (u2 vF_141 q 8 (va_cpy (vF_141 u 8) (vF_141 q 8) (0 : Int32).toNatClampNeg (0 : Int32).toNatClampNeg (60 : Int32).toNatClampNeg)) sN sF) H := (cG_pva8 hq) ▸ hP
  generalize evF_156 : u2 vF_141 q 8 (va_cpy (vF_141 u 8) (vF_141 q 8) (0 : Int32).toNatClampNeg (0 : Int32).toNatClampNeg (60 : Int32).toNatClampNeg) = vF_156 at hP
  replace h := lt_g h evF_156
  refine lv_aload_n hx hb dX7_become_159 rfl (lv_at hl 1 rfl) ?_
  refine rg_V_deedWhom (q := u) hx hb hT hown hK hP hu w_107 dX7_become_160 ?_
  refine lv_iconst (v := 0) hx hb dX7_become_163 (by decide) ?_
  refine lv_aload_n hx hb dX7_become_164 rfl (lv_at hl 0 rfl) ?_
  refine rg_V_deedWhom (q := q) hx hb hT hown hK hP hq w_107 dX7_become_165 ?_
  refine lv_iconst (v := 0) hx hb dX7_become_168 (by decide) ?_
  refine lv_bipush (v := 60) hx hb dX7_become_169 (by decide) ?_
  obtain ⟨hi171, h⟩ := gd_e h
  obtain ⟨ha171, hb171, hc171, hd171, he171⟩ := cpb_e hi171
  refine va_copyi hx hb (hml.trans hl.1.symm) hown (hT _ w_318) (hT _ w_268) (hT _ w_267) (hT _ w_60) hK hP (gD hN) hS (11 + 11 * u + 10) (11 + 11 * q + 10) 0 0 (cG_va9 hu) (cG_va9 hq) rfl rfl rfl ha171 hb171 hc171 hd171 he171 (fun _ _ => rfl) (Nat.le_of_ble_eq_true rfl) (Nat.le_of_ble_eq_true rfl) dX7_become_171 (fun H locs hP _ hS => ?_)
  have hP : va_P X.1 vwCl (cG X gi gl ga vS_21 (u2 vF_156 q 9 (va_cpy (vF_156 u 9) (vF_156 q 9) (0 : Int32).toNatClampNeg (0 : Int32).toNatClampNeg (60 : Int32).toNatClampNeg)) sN sF) H := (cG_pva9 hq) ▸ hP
  generalize evF_171 : u2 vF_156 q 9 (va_cpy (vF_156 u 9) (vF_156 q 9) (0 : Int32).toNatClampNeg (0 : Int32).toNatClampNeg (60 : Int32).toNatClampNeg) = vF_171 at hP
  replace h := lt_g h evF_171
  cases h
  exact W.vret hx hb hr (fun t ht _ => ⟨rfl, by rw [ht]; exact hP, hS.F ht⟩) hS.2.2 dX7_become_174
set_option maxRecDepth 100000 in
set_option maxHeartbeats 4000000 in
theorem c_X7_workDeed (l : Launch) (X : gX) (gi : Nat → Int32) (gl : Nat → Int64) (ga : Nat → Nat → Int32) (vS : Nat → Nat → Int32) (vF : Nat → Nat → Nat → Int32) (sN : Nat → Int32) (sF : Nat → Nat → Int32) (a1 : Int32) {o_vS : Nat → Nat → Int32} {o_vF : Nat → Nat → Nat → Int32} (h : X7_workDeed a1 vS vF = some (o_vS, o_vF)) : Met l yX7_workDeed (Cond.code yX7_workDeed cX7_workDeed 3 none :: gT) { frames := 2, cells := 0, slots := 0, locals := 43 } (va_Pc [.ref (xAV X (0) 0), .int a1] (gPre X gi gl ga vS vF sN sF)) (wQ none (fun H => va_P X.1 vwCl (cG X gi gl ga o_vS o_vF sN sF) H) (gA X)) 0 0 (gA X) := by
  refine Met.ofW (cc := cX7_workDeed) (maxL := 3) (ret := none) (by decide) rfl ?_
  intro p e s m args below meth c s₁ B hml hv
  obtain ⟨rfl, hP, hK, hN, hZ⟩ := hv
  have hx := B.exec
  have hb := B.bytes
  have hr := B.returns
  have hts := atoms_spec (ws := (Cond.code yX7_workDeed cX7_workDeed 3 none :: gT)) B.pre
  have hT : ∀ w ∈ gT, w.before _ s = true := fun w hw => hts w (List.mem_cons_of_mem _ hw)
  have hown : s.vm.findClass RX7 = some m.cls := findClass_of_methodNamed B.named
  have hlocks := B.notSynchronized
  have hS : va_S (gA X) s.heap s.heap [] := va_S.rf
  have hl := lv_entry ([.ref (xAV X (0) 0), .int a1]) (n := 3) (Nat.le_of_ble_eq_true rfl)
  rw [lg_entry_eq]
  generalize (lg_sl ([.ref (xAV X (0) 0), .int a1]) ++ List.replicate (3 - (lg_sl ([.ref (xAV X (0) 0), .int a1])).length) Slot.unset).toArray = ls at hl ⊢
  have hl : lv_has ls 3 [(0, .ref (xAV X (0) 0)), (1, .int a1)] := hl
  have hL76 : ∀ (v1 : Int32) (v2 : Int32) (vS : Nat → Nat → Int32) (vF : Nat → Nat → Nat → Int32) (H : Heap) (locs : List Loc) (ls : Array Slot), lv_has ls 3 [(0, .ref (xAV X (0) 0)), (1, .int v1), (2, .int v2)] → va_P X.1 vwCl (cG X gi gl ga vS vF sN sF) H → va_S (gA X) s.heap H locs → X7_workDeed_76 v1 v2 vS vF = some (o_vS, o_vF) → W p l e (headSpec (Cond.code yX7_workDeed cX7_workDeed 3 none :: gT) { frames := 2, cells := 0, slots := 0, locals := 43 }).room s m [.ref (xAV X (0) 0), .int a1].toArray below meth c H locs 0 0 (MQ below (wQ none (fun H => va_P X.1 vwCl (cG X gi gl ga o_vS o_vF sN sF) H) (gA X)) [.ref (xAV X (0) 0), .int a1].toArray s 0 0 (gA X)) (F0 m 76 ls []) := by
    intro v1 v2 vS vF H locs ls hl hP hS h
    rw [X7_workDeed_76] at h
    refine lv_aload_n hx hb dX7_workDeed_76 rfl (lv_at hl 0 rfl) ?_
    refine lv_iload_n hx hb dX7_workDeed_77 rfl (lv_at hl 2 rfl) ?_
    obtain ⟨r78, hc78, h⟩ := Option.bind_eq_some_iff.mp h
    refine rcV (As := [.int v2]) (rest := []) ⟨hx, hb, hml, hown, hts⟩ (c_X7_isPerson l X gi gl ga vS vF sN sF v2 hc78) ⟨w_340, w_329, w_330, w_53, w_331⟩ hd_X7_isPerson rfl rfl ⟨(Nat.le_of_ble_eq_true rfl), (Nat.le_of_ble_eq_true rfl)⟩ ⟨Nat.zero_le _, Nat.zero_le _⟩ gPre_blind (va_recv hK hP (ci := 3) rfl (cG_v (by decide : 0 < 4))) (gPre_call hP hK hN hZ hS) rfl rfl hl.1 (Nat.le_of_ble_eq_true rfl) dX7_workDeed_78 ?_
    refine lv_if_eq (tgt := 108) hx hb dX7_workDeed_81 (by decide) (fun c81 => ?_) (fun c81 => ?_)
    · replace h := if_t c81 h
      cases h
      exact W.vret hx hb hr (fun t ht _ => ⟨rfl, by rw [ht]; exact hP, hS.F ht⟩) hS.2.2 dX7_workDeed_108
    · replace h := if_f c81 h
      refine lv_aload_n hx hb dX7_workDeed_84 rfl (lv_at hl 0 rfl) ?_
      refine rg_V_holds (q := (0)) hx hb hT hown hK hP (by decide : 0 < 4) w_99 dX7_workDeed_85 ?_
      refine lv_iload_n hx hb dX7_workDeed_88 rfl (lv_at hl 2 rfl) ?_
      refine lv_aload_n hx hb dX7_workDeed_89 rfl (lv_at hl 0 rfl) ?_
      refine rg_V_deedWhom (q := (0)) hx hb hT hown hK hP (by decide : 0 < 4) w_107 dX7_workDeed_90 ?_
      refine lv_iload_n hx hb dX7_workDeed_93 rfl (lv_at hl 1 rfl) ?_
      obtain ⟨hi94, h⟩ := gd_e h
      refine ra_v9 (q := (0)) hx hb hK hP (by decide : 0 < 4) (ib_in hi94) dX7_workDeed_94 ?_
      obtain ⟨hi95, h⟩ := gd_e h
      refine rs_v4 (q := (0)) hx hb hK hP hN hS (by decide : 0 < 4) (ib_in hi95) dX7_workDeed_95 (fun H locs hP hS => ?_)
      generalize evF_95 : u2 vF (0) 4 (upd (vF (0) 4) v2.toNatClampNeg (vF (0) 9 v1.toNatClampNeg)) = vF_95 at hP
      replace h := lt_g h evF_95
      refine lv_aload_n hx hb dX7_workDeed_96 rfl (lv_at hl 0 rfl) ?_
      refine rg_V_hands (q := (0)) hx hb hT hown hK hP (by decide : 0 < 4) w_102 dX7_workDeed_97 ?_
      refine lv_iload_n hx hb dX7_workDeed_100 rfl (lv_at hl 2 rfl) ?_
      refine lv_aload_n hx hb dX7_workDeed_101 rfl (lv_at hl 0 rfl) ?_
      refine rg_V_deedHands (q := (0)) hx hb hT hown hK hP (by decide : 0 < 4) w_106 dX7_workDeed_102 ?_
      refine lv_iload_n hx hb dX7_workDeed_105 rfl (lv_at hl 1 rfl) ?_
      obtain ⟨hi106, h⟩ := gd_e h
      refine ra_v8 (q := (0)) hx hb hK hP (by decide : 0 < 4) (ib_in hi106) dX7_workDeed_106 ?_
      obtain ⟨hi107, h⟩ := gd_e h
      refine rs_v5 (q := (0)) hx hb hK hP hN hS (by decide : 0 < 4) (ib_in hi107) dX7_workDeed_107 (fun H locs hP hS => ?_)
      generalize evF_107 : u2 vF_95 (0) 5 (upd (vF_95 (0) 5) v2.toNatClampNeg (vF_95 (0) 8 v1.toNatClampNeg)) = vF_107 at hP
      replace h := lt_g h evF_107
      cases h
      exact W.vret hx hb hr (fun t ht _ => ⟨rfl, by rw [ht]; exact hP, hS.F ht⟩) hS.2.2 dX7_workDeed_108
  rw [X7_workDeed] at h
  refine lv_iload_n hx hb dX7_workDeed_0 rfl (lv_at hl 1 rfl) ?_
  refine lv_if_lt (tgt := 10) hx hb dX7_workDeed_1 (by decide) (fun c1 => ?_) (fun c1 => ?_)
  · replace h := if_t c1 h
    cases h
    exact W.vret hx hb hr (fun t ht _ => ⟨rfl, by rw [ht]; exact hP, hS.F ht⟩) hS.2.2 dX7_workDeed_10
  · replace h := if_f c1 h
    refine lv_iload_n hx hb dX7_workDeed_4 rfl (lv_at hl 1 rfl) ?_
    refine lv_bipush (v := 60) hx hb dX7_workDeed_5 (by decide) ?_
    refine lv_icmp_lt (tgt := 11) hx hb dX7_workDeed_7 (by decide) (fun c7 => ?_) (fun c7 => ?_)
    · replace h := if_t c7 h
      refine lv_aload_n hx hb dX7_workDeed_11 rfl (lv_at hl 0 rfl) ?_
      refine rg_V_deedWho (q := (0)) hx hb hT hown hK hP (by decide : 0 < 4) w_105 dX7_workDeed_12 ?_
      refine lv_iload_n hx hb dX7_workDeed_15 rfl (lv_at hl 1 rfl) ?_
      obtain ⟨hi16, h⟩ := gd_e h
      refine ra_v7 (q := (0)) hx hb hK hP (by decide : 0 < 4) (ib_in hi16) dX7_workDeed_16 ?_
      refine lv_istore_n (lv' := [(2, .int (vF (0) 7 a1.toNatClampNeg)), (0, .ref (xAV X (0) 0)), (1, .int a1)]) hx hb dX7_workDeed_17 rfl hl (by decide) rfl (fun ls hl => ?_)
      refine lv_aload_n hx hb dX7_workDeed_18 rfl (lv_at hl 1 rfl) ?_
      refine rg_V_deedSorts (q := (0)) hx hb hT hown hK hP (by decide : 0 < 4) w_104 dX7_workDeed_19 ?_
      refine lv_iload_n hx hb dX7_workDeed_22 rfl (lv_at hl 2 rfl) ?_
      obtain ⟨hi23, h⟩ := gd_e h
      refine ra_v6 (q := (0)) hx hb hK hP (by decide : 0 < 4) (ib_in hi23) dX7_workDeed_23 ?_
      refine lv_iconst (v := 2) hx hb dX7_workDeed_24 (by decide) ?_
      refine lv_icmp_ne (tgt := 41) hx hb dX7_workDeed_25 (by decide) (fun c25 => ?_) (fun c25 => ?_)
      · replace h := if_f c25 h
        refine lv_aload_n hx hb dX7_workDeed_41 rfl (lv_at hl 1 rfl) ?_
        refine lv_iload_n hx hb dX7_workDeed_42 rfl (lv_at hl 0 rfl) ?_
        obtain ⟨r43, hc43, h⟩ := Option.bind_eq_some_iff.mp h
        refine rcV (As := [.int (vF (0) 7 a1.toNatClampNeg)]) (rest := []) ⟨hx, hb, hml, hown, hts⟩ (c_X7_isPerson l X gi gl ga vS vF sN sF (vF (0) 7 a1.toNatClampNeg) hc43) ⟨w_340, w_329, w_330, w_53, w_331⟩ hd_X7_isPerson rfl rfl ⟨(Nat.le_of_ble_eq_true rfl), (Nat.le_of_ble_eq_true rfl)⟩ ⟨Nat.zero_le _, Nat.zero_le _⟩ gPre_blind (va_recv hK hP (ci := 3) rfl (cG_v (by decide : 0 < 4))) (gPre_call hP hK hN hZ hS) rfl rfl hl.1 (Nat.le_of_ble_eq_true rfl) dX7_workDeed_43 ?_
        refine lv_if_eq (tgt := 76) hx hb dX7_workDeed_46 (by decide) (fun c46 => ?_) (fun c46 => ?_)
        · replace h := if_t c46 h
          exact hL76 a1 (vF (0) 7 a1.toNatClampNeg) vS vF _ _ ls (lv_sub hl [1, 2, 0] rfl) hP hS h
        · replace h := if_f c46 h
          refine lv_aload_n hx hb dX7_workDeed_49 rfl (lv_at hl 1 rfl) ?_
          refine rg_V_deedSorts (q := (0)) hx hb hT hown hK hP (by decide : 0 < 4) w_104 dX7_workDeed_50 ?_
          refine lv_iload_n hx hb dX7_workDeed_53 rfl (lv_at hl 2 rfl) ?_
          obtain ⟨hi54, h⟩ := gd_e h
          refine ra_v6 (q := (0)) hx hb hK hP (by decide : 0 < 4) (ib_in hi54) dX7_workDeed_54 ?_
          refine lv_iconst (v := 1) hx hb dX7_workDeed_55 (by decide) ?_
          refine lv_icmp_ne (tgt := 76) hx hb dX7_workDeed_56 (by decide) (fun c56 => ?_) (fun c56 => ?_)
          · replace h := if_f c56 h
            exact hL76 a1 (vF (0) 7 a1.toNatClampNeg) vS vF _ _ ls (lv_sub hl [1, 2, 0] rfl) hP hS h
          · replace h := if_t c56 h
            refine lv_aload_n hx hb dX7_workDeed_59 rfl (lv_at hl 1 rfl) ?_
            refine rg_V_laughs (q := (0)) hx hb hT hown hK hP (by decide : 0 < 4) w_98 dX7_workDeed_60 ?_
            refine lv_iload_n hx hb dX7_workDeed_63 rfl (lv_at hl 0 rfl) ?_
            refine lv_aload_n hx hb dX7_workDeed_64 rfl (lv_at hl 1 rfl) ?_
            refine rg_V_day (q := (0)) hx hb hT hown hK hP (by decide : 0 < 4) w_88 dX7_workDeed_65 ?_
            obtain ⟨hi68, h⟩ := gd_e h
            refine rs_v3 (q := (0)) hx hb hK hP hN hS (by decide : 0 < 4) (ib_in hi68) dX7_workDeed_68 (fun H locs hP hS => ?_)
            generalize evF_68 : u2 vF (0) 3 (upd (vF (0) 3) (vF (0) 7 a1.toNatClampNeg).toNatClampNeg (vS (0) 1)) = vF_68 at hP
            replace h := lt_g h evF_68
            refine lv_aload_n hx hb dX7_workDeed_69 rfl (lv_at hl 1 rfl) ?_
            obtain ⟨vF_70, hc70, h⟩ := Option.bind_eq_some_iff.mp h
            refine wcV (As := []) (rest := []) ⟨hx, hb, hml, hown, hts⟩ (c_X7_freeAll l X gi gl ga vS vF_68 sN sF hc70) ⟨w_319, w_321, w_1, w_53, w_322⟩ hd_X7_freeAll rfl rfl ⟨(Nat.le_of_ble_eq_true rfl), (Nat.le_of_ble_eq_true rfl)⟩ ⟨Nat.zero_le _, Nat.zero_le _⟩ gPre_blind (va_recv hK hP (ci := 3) rfl (cG_v (by decide : 0 < 4))) (gPre_call hP hK hN hZ hS) hS (fun _ h => h) rfl rfl hl.1 (Nat.le_of_ble_eq_true rfl) dX7_workDeed_70 (fun H locs hP _ hS => ?_)
            have hP : va_P X.1 vwCl (cG X gi gl ga vS vF_70 sN sF) H := hP
            refine W.eq (g2 := F0 m 73 ls []) rfl ?_
            refine lv_goto (tgt := 108) hx hb dX7_workDeed_73 (by decide) ?_
            cases h
            exact W.vret hx hb hr (fun t ht _ => ⟨rfl, by rw [ht]; exact hP, hS.F ht⟩) hS.2.2 dX7_workDeed_108
      · replace h := if_t c25 h
        refine lv_aload_n hx hb dX7_workDeed_28 rfl (lv_at hl 1 rfl) ?_
        refine lv_dup hx hb dX7_workDeed_29 rfl ?_
        refine rg_V_day (q := (0)) hx hb hT hown hK hP (by decide : 0 < 4) w_88 dX7_workDeed_30 ?_
        refine lv_iload_n hx hb dX7_workDeed_33 rfl (lv_at hl 0 rfl) ?_
        refine lv_iadd hx hb dX7_workDeed_34 ?_
        refine rp_V_day (q := (0)) hx hb hT hown hK hP hN hS (by decide : 0 < 4) w_88 dX7_workDeed_35 (fun H locs hP hS => ?_)
        generalize evS_35 : u2 vS (0) 1 ((vS (0) 1) + (vF (0) 7 a1.toNatClampNeg)) = vS_35 at hP
        replace h := lt_g h evS_35
        refine lv_goto (tgt := 108) hx hb dX7_workDeed_38 (by decide) ?_
        cases h
        exact W.vret hx hb hr (fun t ht _ => ⟨rfl, by rw [ht]; exact hP, hS.F ht⟩) hS.2.2 dX7_workDeed_108
    · replace h := if_f c7 h
      cases h
      exact W.vret hx hb hr (fun t ht _ => ⟨rfl, by rw [ht]; exact hP, hS.F ht⟩) hS.2.2 dX7_workDeed_10
set_option maxRecDepth 100000 in
set_option maxHeartbeats 4000000 in
theorem c_X7_doDeed (l : Launch) (X : gX) (gi : Nat → Int32) (gl : Nat → Int64) (ga : Nat → Nat → Int32) (vS : Nat → Nat → Int32) (vF : Nat → Nat → Nat → Int32) (sN : Nat → Int32) (sF : Nat → Nat → Int32) (a1 : Int32) (a2 : Int32) (a3 : Int32) (a4 : Int32) {o_vS : Nat → Nat → Int32} {o_vF : Nat → Nat → Nat → Int32} (h : X7_doDeed a1 a2 a3 a4 vS vF = some (o_vS, o_vF)) : Met l yX7_doDeed (Cond.code yX7_doDeed cX7_doDeed 5 none :: gT) { frames := 3, cells := 0, slots := 0, locals := 65 } (va_Pc [.ref (xAV X (0) 0), .int a1, .int a2, .int a3, .int a4] (gPre X gi gl ga vS vF sN sF)) (wQ none (fun H => va_P X.1 vwCl (cG X gi gl ga o_vS o_vF sN sF) H) (gA X)) 0 0 (gA X) := by
  refine Met.ofW (cc := cX7_doDeed) (maxL := 5) (ret := none) (by decide) rfl ?_
  intro p e s m args below meth c s₁ B hml hv
  obtain ⟨rfl, hP, hK, hN, hZ⟩ := hv
  have hx := B.exec
  have hb := B.bytes
  have hr := B.returns
  have hts := atoms_spec (ws := (Cond.code yX7_doDeed cX7_doDeed 5 none :: gT)) B.pre
  have hT : ∀ w ∈ gT, w.before _ s = true := fun w hw => hts w (List.mem_cons_of_mem _ hw)
  have hown : s.vm.findClass RX7 = some m.cls := findClass_of_methodNamed B.named
  have hlocks := B.notSynchronized
  have hS : va_S (gA X) s.heap s.heap [] := va_S.rf
  have hl := lv_entry ([.ref (xAV X (0) 0), .int a1, .int a2, .int a3, .int a4]) (n := 5) (Nat.le_of_ble_eq_true rfl)
  rw [lg_entry_eq]
  generalize (lg_sl ([.ref (xAV X (0) 0), .int a1, .int a2, .int a3, .int a4]) ++ List.replicate (5 - (lg_sl ([.ref (xAV X (0) 0), .int a1, .int a2, .int a3, .int a4])).length) Slot.unset).toArray = ls at hl ⊢
  have hl : lv_has ls 5 [(0, .ref (xAV X (0) 0)), (1, .int a1), (2, .int a2), (3, .int a3), (4, .int a4)] := hl
  rw [X7_doDeed] at h
  refine lv_aload_n hx hb dX7_doDeed_0 rfl (lv_at hl 0 rfl) ?_
  refine rg_V_deeds (q := (0)) hx hb hT hown hK hP (by decide : 0 < 4) w_90 dX7_doDeed_1 ?_
  refine lv_if_lt (tgt := 16) hx hb dX7_doDeed_4 (by decide) (fun c4 => ?_) (fun c4 => ?_)
  · replace h := if_t c4 h
    cases h
    exact W.vret hx hb hr (fun t ht _ => ⟨rfl, by rw [ht]; exact hP, hS.F ht⟩) hS.2.2 dX7_doDeed_16
  · replace h := if_f c4 h
    refine lv_aload_n hx hb dX7_doDeed_7 rfl (lv_at hl 0 rfl) ?_
    refine rg_V_deeds (q := (0)) hx hb hT hown hK hP (by decide : 0 < 4) w_90 dX7_doDeed_8 ?_
    refine lv_bipush (v := 60) hx hb dX7_doDeed_11 (by decide) ?_
    refine lv_icmp_lt (tgt := 17) hx hb dX7_doDeed_13 (by decide) (fun c13 => ?_) (fun c13 => ?_)
    · replace h := if_t c13 h
      refine lv_aload_n hx hb dX7_doDeed_17 rfl (lv_at hl 0 rfl) ?_
      refine rg_V_deedSorts (q := (0)) hx hb hT hown hK hP (by decide : 0 < 4) w_104 dX7_doDeed_18 ?_
      refine lv_aload_n hx hb dX7_doDeed_21 rfl (lv_at hl 0 rfl) ?_
      refine rg_V_deeds (q := (0)) hx hb hT hown hK hP (by decide : 0 < 4) w_90 dX7_doDeed_22 ?_
      refine lv_iload_n hx hb dX7_doDeed_25 rfl (lv_at hl 1 rfl) ?_
      obtain ⟨hi26, h⟩ := gd_e h
      refine rs_v6 (q := (0)) hx hb hK hP hN hS (by decide : 0 < 4) (ib_in hi26) dX7_doDeed_26 (fun H locs hP hS => ?_)
      generalize evF_26 : u2 vF (0) 6 (upd (vF (0) 6) (vS (0) 2).toNatClampNeg a1) = vF_26 at hP
      replace h := lt_g h evF_26
      refine lv_aload_n hx hb dX7_doDeed_27 rfl (lv_at hl 0 rfl) ?_
      refine rg_V_deedWho (q := (0)) hx hb hT hown hK hP (by decide : 0 < 4) w_105 dX7_doDeed_28 ?_
      refine lv_aload_n hx hb dX7_doDeed_31 rfl (lv_at hl 0 rfl) ?_
      refine rg_V_deeds (q := (0)) hx hb hT hown hK hP (by decide : 0 < 4) w_90 dX7_doDeed_32 ?_
      refine lv_iload_n hx hb dX7_doDeed_35 rfl (lv_at hl 2 rfl) ?_
      obtain ⟨hi36, h⟩ := gd_e h
      refine rs_v7 (q := (0)) hx hb hK hP hN hS (by decide : 0 < 4) (ib_in hi36) dX7_doDeed_36 (fun H locs hP hS => ?_)
      generalize evF_36 : u2 vF_26 (0) 7 (upd (vF_26 (0) 7) (vS (0) 2).toNatClampNeg a2) = vF_36 at hP
      replace h := lt_g h evF_36
      refine lv_aload_n hx hb dX7_doDeed_37 rfl (lv_at hl 0 rfl) ?_
      refine rg_V_deedHands (q := (0)) hx hb hT hown hK hP (by decide : 0 < 4) w_106 dX7_doDeed_38 ?_
      refine lv_aload_n hx hb dX7_doDeed_41 rfl (lv_at hl 0 rfl) ?_
      refine rg_V_deeds (q := (0)) hx hb hT hown hK hP (by decide : 0 < 4) w_90 dX7_doDeed_42 ?_
      refine lv_iload_n hx hb dX7_doDeed_45 rfl (lv_at hl 3 rfl) ?_
      obtain ⟨hi46, h⟩ := gd_e h
      refine rs_v8 (q := (0)) hx hb hK hP hN hS (by decide : 0 < 4) (ib_in hi46) dX7_doDeed_46 (fun H locs hP hS => ?_)
      generalize evF_46 : u2 vF_36 (0) 8 (upd (vF_36 (0) 8) (vS (0) 2).toNatClampNeg a3) = vF_46 at hP
      replace h := lt_g h evF_46
      refine lv_aload_n hx hb dX7_doDeed_47 rfl (lv_at hl 0 rfl) ?_
      refine rg_V_deedWhom (q := (0)) hx hb hT hown hK hP (by decide : 0 < 4) w_107 dX7_doDeed_48 ?_
      refine lv_aload_n hx hb dX7_doDeed_51 rfl (lv_at hl 0 rfl) ?_
      refine rg_V_deeds (q := (0)) hx hb hT hown hK hP (by decide : 0 < 4) w_90 dX7_doDeed_52 ?_
      refine lv_iload hx hb dX7_doDeed_55 (lv_at hl 4 rfl) ?_
      obtain ⟨hi57, h⟩ := gd_e h
      refine rs_v9 (q := (0)) hx hb hK hP hN hS (by decide : 0 < 4) (ib_in hi57) dX7_doDeed_57 (fun H locs hP hS => ?_)
      generalize evF_57 : u2 vF_46 (0) 9 (upd (vF_46 (0) 9) (vS (0) 2).toNatClampNeg a4) = vF_57 at hP
      replace h := lt_g h evF_57
      refine lv_aload_n hx hb dX7_doDeed_58 rfl (lv_at hl 0 rfl) ?_
      refine lv_aload_n hx hb dX7_doDeed_59 rfl (lv_at hl 0 rfl) ?_
      refine rg_V_deeds (q := (0)) hx hb hT hown hK hP (by decide : 0 < 4) w_90 dX7_doDeed_60 ?_
      obtain ⟨vS_63, vF_63, hc63, h⟩ := bd2_e h
      refine wcV (As := [.int (vS (0) 2)]) (rest := []) ⟨hx, hb, hml, hown, hts⟩ (c_X7_workDeed l X gi gl ga vS vF_57 sN sF (vS (0) 2) hc63) ⟨w_445, w_447, w_3, w_53, w_448⟩ hd_X7_workDeed rfl rfl ⟨(Nat.le_of_ble_eq_true rfl), (Nat.le_of_ble_eq_true rfl)⟩ ⟨Nat.zero_le _, Nat.zero_le _⟩ gPre_blind (va_recv hK hP (ci := 3) rfl (cG_v (by decide : 0 < 4))) (gPre_call hP hK hN hZ hS) hS (fun _ h => h) rfl rfl hl.1 (Nat.le_of_ble_eq_true rfl) dX7_doDeed_63 (fun H locs hP _ hS => ?_)
      have hP : va_P X.1 vwCl (cG X gi gl ga vS_63 vF_63 sN sF) H := hP
      refine W.eq (g2 := F0 m 66 ls []) rfl ?_
      refine lv_aload_n hx hb dX7_doDeed_66 rfl (lv_at hl 0 rfl) ?_
      refine lv_dup hx hb dX7_doDeed_67 rfl ?_
      refine rg_V_deeds (q := (0)) hx hb hT hown hK hP (by decide : 0 < 4) w_90 dX7_doDeed_68 ?_
      refine lv_iconst (v := 1) hx hb dX7_doDeed_71 (by decide) ?_
      refine lv_iadd hx hb dX7_doDeed_72 ?_
      refine rp_V_deeds (q := (0)) hx hb hT hown hK hP hN hS (by decide : 0 < 4) w_90 dX7_doDeed_73 (fun H locs hP hS => ?_)
      generalize evS_73 : u2 vS_63 (0) 2 ((vS_63 (0) 2) + (1 : Int32)) = vS_73 at hP
      replace h := lt_g h evS_73
      cases h
      exact W.vret hx hb hr (fun t ht _ => ⟨rfl, by rw [ht]; exact hP, hS.F ht⟩) hS.2.2 dX7_doDeed_76
    · replace h := if_f c13 h
      cases h
      exact W.vret hx hb hr (fun t ht _ => ⟨rfl, by rw [ht]; exact hP, hS.F ht⟩) hS.2.2 dX7_doDeed_16
set_option maxRecDepth 100000 in
set_option maxHeartbeats 4000000 in
theorem c_X7_goBackTo (l : Launch) (X : gX) (gi : Nat → Int32) (gl : Nat → Int64) (ga : Nat → Nat → Int32) (vS : Nat → Nat → Int32) (vF : Nat → Nat → Nat → Int32) (sN : Nat → Int32) (sF : Nat → Nat → Int32) (a1 : Int32) {o_vS : Nat → Nat → Int32} {o_vF : Nat → Nat → Nat → Int32} (h : X7_goBackTo a1 vS vF = some (o_vS, o_vF)) : Met l yX7_goBackTo (Cond.code yX7_goBackTo cX7_goBackTo 3 none :: gT) { frames := 3, cells := 0, slots := 0, locals := 80 } (va_Pc [.ref (xAV X (0) 0), .int a1] (gPre X gi gl ga vS vF sN sF)) (wQ none (fun H => va_P X.1 vwCl (cG X gi gl ga o_vS o_vF sN sF) H) (gA X)) 0 0 (gA X) := by
  refine Met.ofW (cc := cX7_goBackTo) (maxL := 3) (ret := none) (by decide) rfl ?_
  intro p e s m args below meth c s₁ B hml hv
  obtain ⟨rfl, hP, hK, hN, hZ⟩ := hv
  have hx := B.exec
  have hb := B.bytes
  have hr := B.returns
  have hts := atoms_spec (ws := (Cond.code yX7_goBackTo cX7_goBackTo 3 none :: gT)) B.pre
  have hT : ∀ w ∈ gT, w.before _ s = true := fun w hw => hts w (List.mem_cons_of_mem _ hw)
  have hown : s.vm.findClass RX7 = some m.cls := findClass_of_methodNamed B.named
  have hlocks := B.notSynchronized
  have hS : va_S (gA X) s.heap s.heap [] := va_S.rf
  have hl := lv_entry ([.ref (xAV X (0) 0), .int a1]) (n := 3) (Nat.le_of_ble_eq_true rfl)
  rw [lg_entry_eq]
  generalize (lg_sl ([.ref (xAV X (0) 0), .int a1]) ++ List.replicate (3 - (lg_sl ([.ref (xAV X (0) 0), .int a1])).length) Slot.unset).toArray = ls at hl ⊢
  have hl : lv_has ls 3 [(0, .ref (xAV X (0) 0)), (1, .int a1)] := hl
  have hL6 : ∀ (n6 : Nat) (v1 : Int32) (v2 : Int32) (vS : Nat → Nat → Int32) (vF : Nat → Nat → Nat → Int32) (H : Heap) (locs : List Loc) (ls : Array Slot), lv_has ls 3 [(0, .ref (xAV X (0) 0)), (1, .int v1), (2, .int v2)] → va_P X.1 vwCl (cG X gi gl ga vS vF sN sF) H → va_S (gA X) s.heap H locs → X7_goBackTo_6 n6 v1 v2 vS vF = some (o_vS, o_vF) → W p l e (headSpec (Cond.code yX7_goBackTo cX7_goBackTo 3 none :: gT) { frames := 3, cells := 0, slots := 0, locals := 80 }).room s m [.ref (xAV X (0) 0), .int a1].toArray below meth c H locs 0 0 (MQ below (wQ none (fun H => va_P X.1 vwCl (cG X gi gl ga o_vS o_vF sN sF) H) (gA X)) [.ref (xAV X (0) 0), .int a1].toArray s 0 0 (gA X)) (F0 m 6 ls []) := by
    intro n6
    induction n6 with
    | zero =>
      intro v1 v2 vS vF H locs ls hl hP hS h
      rw [X7_goBackTo_6] at h
      cases h
    | succ n6 ih6 =>
      intro v1 v2 vS vF H locs ls hl hP hS h
      rw [X7_goBackTo_6] at h
      refine lv_iload_n hx hb dX7_goBackTo_6 rfl (lv_at hl 2 rfl) ?_
      refine lv_iload_n hx hb dX7_goBackTo_7 rfl (lv_at hl 1 rfl) ?_
      refine lv_icmp_ge (tgt := 22) hx hb dX7_goBackTo_8 (by decide) (fun c8 => ?_) (fun c8 => ?_)
      · replace h := if_t c8 h
        refine lv_aload_n hx hb dX7_goBackTo_22 rfl (lv_at hl 0 rfl) ?_
        refine lv_iload_n hx hb dX7_goBackTo_23 rfl (lv_at hl 1 rfl) ?_
        refine rp_V_deeds (q := (0)) hx hb hT hown hK hP hN hS (by decide : 0 < 4) w_90 dX7_goBackTo_24 (fun H locs hP hS => ?_)
        generalize evS_24 : u2 vS (0) 2 v1 = vS_24 at hP
        replace h := lt_g h evS_24
        cases h
        exact W.vret hx hb hr (fun t ht _ => ⟨rfl, by rw [ht]; exact hP, hS.F ht⟩) hS.2.2 dX7_goBackTo_27
      · replace h := if_f c8 h
        refine lv_aload_n hx hb dX7_goBackTo_11 rfl (lv_at hl 0 rfl) ?_
        refine lv_iload_n hx hb dX7_goBackTo_12 rfl (lv_at hl 2 rfl) ?_
        obtain ⟨vS_13, vF_13, hc13, h⟩ := bd2_e h
        refine wcV (As := [.int v2]) (rest := []) ⟨hx, hb, hml, hown, hts⟩ (c_X7_workDeed l X gi gl ga vS vF sN sF v2 hc13) ⟨w_445, w_447, w_3, w_53, w_448⟩ hd_X7_workDeed rfl rfl ⟨(Nat.le_of_ble_eq_true rfl), (Nat.le_of_ble_eq_true rfl)⟩ ⟨Nat.zero_le _, Nat.zero_le _⟩ gPre_blind (va_recv hK hP (ci := 3) rfl (cG_v (by decide : 0 < 4))) (gPre_call hP hK hN hZ hS) hS (fun _ h => h) rfl rfl hl.1 (Nat.le_of_ble_eq_true rfl) dX7_goBackTo_13 (fun H locs hP _ hS => ?_)
        have hP : va_P X.1 vwCl (cG X gi gl ga vS_13 vF_13 sN sF) H := hP
        refine W.eq (g2 := F0 m 16 ls []) rfl ?_
        refine lv_iinc (v := (v2 + (1 : Int32))) (lv' := [(2, .int (v2 + (1 : Int32))), (0, .ref (xAV X (0) 0)), (1, .int v1)]) hx hb dX7_goBackTo_16 hl (k := 2) rfl rfl (by decide) rfl (fun ls hl => ?_)
        refine lv_goto (tgt := 6) hx hb dX7_goBackTo_19 (by decide) ?_
        exact ih6 v1 (v2 + (1 : Int32)) vS_13 vF_13 _ _ ls (lv_sub hl [1, 2, 0] rfl) hP hS h
  rw [X7_goBackTo] at h
  refine lv_aload_n hx hb dX7_goBackTo_0 rfl (lv_at hl 0 rfl) ?_
  obtain ⟨vS_1, vF_1, hc1, h⟩ := bd2_e h
  refine wcV (As := []) (rest := []) ⟨hx, hb, hml, hown, hts⟩ (c_X7_startAnew l X gi gl ga vS vF sN sF hc1) ⟨w_480, w_315, w_316, w_53, w_317⟩ hd_X7_startAnew rfl rfl ⟨(Nat.le_of_ble_eq_true rfl), (Nat.le_of_ble_eq_true rfl)⟩ ⟨Nat.zero_le _, Nat.zero_le _⟩ gPre_blind (va_recv hK hP (ci := 3) rfl (cG_v (by decide : 0 < 4))) (gPre_call hP hK hN hZ hS) hS (fun _ h => h) rfl rfl hl.1 (Nat.le_of_ble_eq_true rfl) dX7_goBackTo_1 (fun H locs hP _ hS => ?_)
  have hP : va_P X.1 vwCl (cG X gi gl ga vS_1 vF_1 sN sF) H := hP
  refine W.eq (g2 := F0 m 4 ls []) rfl ?_
  refine lv_iconst (v := 0) hx hb dX7_goBackTo_4 (by decide) ?_
  refine lv_istore_n (lv' := [(2, .int (0 : Int32)), (0, .ref (xAV X (0) 0)), (1, .int a1)]) hx hb dX7_goBackTo_5 rfl hl (by decide) rfl (fun ls hl => ?_)
  exact hL6 500 a1 (0 : Int32) vS_1 vF_1 _ _ ls (lv_sub hl [1, 2, 0] rfl) hP hS h
set_option maxRecDepth 100000 in
set_option maxHeartbeats 4000000 in
theorem c_X7_doTouch (l : Launch) (X : gX) (gi : Nat → Int32) (gl : Nat → Int64) (ga : Nat → Nat → Int32) (vS : Nat → Nat → Int32) (vF : Nat → Nat → Nat → Int32) (sN : Nat → Int32) (sF : Nat → Nat → Int32) (a1 : Int32) {o_vS : Nat → Nat → Int32} {o_vF : Nat → Nat → Nat → Int32} (h : X7_doTouch a1 vS vF = some (o_vS, o_vF)) : Met l yX7_doTouch (Cond.code yX7_doTouch cX7_doTouch 6 none :: gT) { frames := 4, cells := 0, slots := 0, locals := 89 } (va_Pc [.ref (xAV X (0) 0), .int a1] (gPre X gi gl ga vS vF sN sF)) (wQ none (fun H => va_P X.1 vwCl (cG X gi gl ga o_vS o_vF sN sF) H) (gA X)) 0 0 (gA X) := by
  refine Met.ofW (cc := cX7_doTouch) (maxL := 6) (ret := none) (by decide) rfl ?_
  intro p e s m args below meth c s₁ B hml hv
  obtain ⟨rfl, hP, hK, hN, hZ⟩ := hv
  have hx := B.exec
  have hb := B.bytes
  have hr := B.returns
  have hts := atoms_spec (ws := (Cond.code yX7_doTouch cX7_doTouch 6 none :: gT)) B.pre
  have hT : ∀ w ∈ gT, w.before _ s = true := fun w hw => hts w (List.mem_cons_of_mem _ hw)
  have hown : s.vm.findClass RX7 = some m.cls := findClass_of_methodNamed B.named
  have hlocks := B.notSynchronized
  have hS : va_S (gA X) s.heap s.heap [] := va_S.rf
  have hl := lv_entry ([.ref (xAV X (0) 0), .int a1]) (n := 6) (Nat.le_of_ble_eq_true rfl)
  rw [lg_entry_eq]
  generalize (lg_sl ([.ref (xAV X (0) 0), .int a1]) ++ List.replicate (6 - (lg_sl ([.ref (xAV X (0) 0), .int a1])).length) Slot.unset).toArray = ls at hl ⊢
  have hl : lv_has ls 6 [(0, .ref (xAV X (0) 0)), (1, .int a1)] := hl
  have hL12 : ∀ (n12 : Nat) (v2 : Int32) (v3 : Int32) (v4 : Int32) (vS : Nat → Nat → Int32) (vF : Nat → Nat → Nat → Int32) (H : Heap) (locs : List Loc) (ls : Array Slot), lv_has ls 6 [(0, .ref (xAV X (0) 0)), (2, .int v2), (3, .int v3), (4, .int v4)] → va_P X.1 vwCl (cG X gi gl ga vS vF sN sF) H → va_S (gA X) s.heap H locs → X7_doTouch_12 n12 v2 v3 v4 vS vF = some (o_vS, o_vF) → W p l e (headSpec (Cond.code yX7_doTouch cX7_doTouch 6 none :: gT) { frames := 4, cells := 0, slots := 0, locals := 89 }).room s m [.ref (xAV X (0) 0), .int a1].toArray below meth c H locs 0 0 (MQ below (wQ none (fun H => va_P X.1 vwCl (cG X gi gl ga o_vS o_vF sN sF) H) (gA X)) [.ref (xAV X (0) 0), .int a1].toArray s 0 0 (gA X)) (F0 m 12 ls []) := by
    intro n12
    induction n12 with
    | zero =>
      intro v2 v3 v4 vS vF H locs ls hl hP hS h
      rw [X7_doTouch_12] at h
      cases h
    | succ n12 ih12 =>
      intro v2 v3 v4 vS vF H locs ls hl hP hS h
      rw [X7_doTouch_12] at h
      have hL24 : ∀ (n24 : Nat) (v2 : Int32) (v3 : Int32) (v4 : Int32) (v5 : Int32) (vS : Nat → Nat → Int32) (vF : Nat → Nat → Nat → Int32) (H : Heap) (locs : List Loc) (ls : Array Slot), lv_has ls 6 [(0, .ref (xAV X (0) 0)), (2, .int v2), (3, .int v3), (4, .int v4), (5, .int v5)] → va_P X.1 vwCl (cG X gi gl ga vS vF sN sF) H → va_S (gA X) s.heap H locs → X7_doTouch_24 (X7_doTouch_12 n12) n24 v2 v3 v4 v5 vS vF = some (o_vS, o_vF) → W p l e (headSpec (Cond.code yX7_doTouch cX7_doTouch 6 none :: gT) { frames := 4, cells := 0, slots := 0, locals := 89 }).room s m [.ref (xAV X (0) 0), .int a1].toArray below meth c H locs 0 0 (MQ below (wQ none (fun H => va_P X.1 vwCl (cG X gi gl ga o_vS o_vF sN sF) H) (gA X)) [.ref (xAV X (0) 0), .int a1].toArray s 0 0 (gA X)) (F0 m 24 ls []) := by
        intro n24
        induction n24 with
        | zero =>
          intro v2 v3 v4 v5 vS vF H locs ls hl hP hS h
          rw [X7_doTouch_24] at h
          cases h
        | succ n24 ih24 =>
          intro v2 v3 v4 v5 vS vF H locs ls hl hP hS h
          rw [X7_doTouch_24] at h
          refine lv_iload hx hb dX7_doTouch_24 (lv_at hl 4 rfl) ?_
          refine lv_iconst (v := 2) hx hb dX7_doTouch_26 (by decide) ?_
          refine lv_icmp_ge (tgt := 83) hx hb dX7_doTouch_27 (by decide) (fun c27 => ?_) (fun c27 => ?_)
          · replace h := if_t c27 h
            refine lv_iinc (v := (v4 + (1 : Int32))) (lv' := [(4, .int (v4 + (1 : Int32))), (0, .ref (xAV X (0) 0)), (2, .int v2), (3, .int v3), (5, .int v5)]) hx hb dX7_doTouch_83 hl (k := 3) rfl rfl (by decide) rfl (fun ls hl => ?_)
            refine lv_goto (tgt := 12) hx hb dX7_doTouch_86 (by decide) ?_
            exact ih12 v2 v3 (v4 + (1 : Int32)) vS vF _ _ ls (lv_sub hl [1, 2, 3, 0] rfl) hP hS h
          · replace h := if_f c27 h
            refine lv_aload_n hx hb dX7_doTouch_30 rfl (lv_at hl 0 rfl) ?_
            refine lv_iload hx hb dX7_doTouch_31 (lv_at hl 3 rfl) ?_
            obtain ⟨r33, hc33, h⟩ := Option.bind_eq_some_iff.mp h
            refine rcV (As := [.int v4]) (rest := []) ⟨hx, hb, hml, hown, hts⟩ (c_X7_isStuck l X gi gl ga vS vF sN sF v4 hc33) ⟨w_352, w_353, w_354, w_53, w_355⟩ hd_X7_isStuck rfl rfl ⟨(Nat.le_of_ble_eq_true rfl), (Nat.le_of_ble_eq_true rfl)⟩ ⟨Nat.zero_le _, Nat.zero_le _⟩ gPre_blind (va_recv hK hP (ci := 3) rfl (cG_v (by decide : 0 < 4))) (gPre_call hP hK hN hZ hS) rfl rfl hl.1 (Nat.le_of_ble_eq_true rfl) dX7_doTouch_33 ?_
            refine lv_if_ne (tgt := 77) hx hb dX7_doTouch_36 (by decide) (fun c36 => ?_) (fun c36 => ?_)
            · replace h := if_f c36 h
              refine lv_iinc (v := (v5 + (1 : Int32))) (lv' := [(5, .int (v5 + (1 : Int32))), (0, .ref (xAV X (0) 0)), (2, .int v2), (3, .int v3), (4, .int v4)]) hx hb dX7_doTouch_77 hl (k := 4) rfl rfl (by decide) rfl (fun ls hl => ?_)
              refine lv_goto (tgt := 24) hx hb dX7_doTouch_80 (by decide) ?_
              exact ih24 v2 v3 v4 (v5 + (1 : Int32)) vS vF _ _ ls (lv_sub hl [1, 2, 3, 4, 0] rfl) hP hS h
            · replace h := if_t c36 h
              refine lv_aload_n hx hb dX7_doTouch_39 rfl (lv_at hl 0 rfl) ?_
              refine lv_iload hx hb dX7_doTouch_40 (lv_at hl 3 rfl) ?_
              refine lv_iload hx hb dX7_doTouch_42 (lv_at hl 4 rfl) ?_
              obtain ⟨r44, hc44, h⟩ := Option.bind_eq_some_iff.mp h
              refine rcV (As := [.int v4, .int v5]) (rest := []) ⟨hx, hb, hml, hown, hts⟩ (c_X7_sticksBy l X gi gl ga vS vF sN sF v4 v5 hc44) ⟨w_595, w_438, w_439, w_53, w_440⟩ hd_X7_sticksBy rfl rfl ⟨(Nat.le_of_ble_eq_true rfl), (Nat.le_of_ble_eq_true rfl)⟩ ⟨Nat.zero_le _, Nat.zero_le _⟩ gPre_blind (va_recv hK hP (ci := 3) rfl (cG_v (by decide : 0 < 4))) (gPre_call hP hK hN hZ hS) rfl rfl hl.1 (Nat.le_of_ble_eq_true rfl) dX7_doTouch_44 ?_
              refine lv_if_ne (tgt := 53) hx hb dX7_doTouch_47 (by decide) (fun c47 => ?_) (fun c47 => ?_)
              · replace h := if_f c47 h
                refine lv_iload_n hx hb dX7_doTouch_53 rfl (lv_at hl 2 rfl) ?_
                refine lv_iload_n hx hb dX7_doTouch_54 rfl (lv_at hl 1 rfl) ?_
                refine lv_icmp_ge (tgt := 73) hx hb dX7_doTouch_55 (by decide) (fun c55 => ?_) (fun c55 => ?_)
                · replace h := if_t c55 h
                  refine lv_iload_n hx hb dX7_doTouch_73 rfl (lv_at hl 2 rfl) ?_
                  refine lv_iload_n hx hb dX7_doTouch_74 rfl (lv_at hl 1 rfl) ?_
                  refine lv_isub hx hb dX7_doTouch_75 ?_
                  refine lv_istore_n (lv' := [(3, .int (v3 - v2)), (0, .ref (xAV X (0) 0)), (2, .int v2), (4, .int v4), (5, .int v5)]) hx hb dX7_doTouch_76 rfl hl (by decide) rfl (fun ls hl => ?_)
                  refine lv_iinc (v := (v5 + (1 : Int32))) (lv' := [(5, .int (v5 + (1 : Int32))), (3, .int (v3 - v2)), (0, .ref (xAV X (0) 0)), (2, .int v2), (4, .int v4)]) hx hb dX7_doTouch_77 hl (k := 4) rfl rfl (by decide) rfl (fun ls hl => ?_)
                  refine lv_goto (tgt := 24) hx hb dX7_doTouch_80 (by decide) ?_
                  exact ih24 v2 (v3 - v2) v4 (v5 + (1 : Int32)) vS vF _ _ ls (lv_sub hl [2, 3, 1, 4, 0] rfl) hP hS h
                · replace h := if_f c55 h
                  refine lv_aload_n hx hb dX7_doTouch_58 rfl (lv_at hl 0 rfl) ?_
                  refine lv_iconst (v := 0) hx hb dX7_doTouch_59 (by decide) ?_
                  refine lv_iload hx hb dX7_doTouch_60 (lv_at hl 3 rfl) ?_
                  refine lv_iload hx hb dX7_doTouch_62 (lv_at hl 4 rfl) ?_
                  refine lv_aload_n hx hb dX7_doTouch_64 rfl (lv_at hl 0 rfl) ?_
                  refine lv_iload_n hx hb dX7_doTouch_65 rfl (lv_at hl 2 rfl) ?_
                  obtain ⟨r66, hc66, h⟩ := Option.bind_eq_some_iff.mp h
                  refine rcV (As := [.int v3]) (rest := [.int v5, .int v4, .int (0 : Int32), .ref (xAV X (0) 0)]) ⟨hx, hb, hml, hown, hts⟩ (c_X7_targetAt l X gi gl ga vS vF sN sF v3 hc66) ⟨w_718, w_720, w_9, w_53, w_721⟩ hd_X7_targetAt rfl rfl ⟨(Nat.le_of_ble_eq_true rfl), (Nat.le_of_ble_eq_true rfl)⟩ ⟨Nat.zero_le _, Nat.zero_le _⟩ gPre_blind (va_recv hK hP (ci := 3) rfl (cG_v (by decide : 0 < 4))) (gPre_call hP hK hN hZ hS) rfl rfl hl.1 (Nat.le_of_ble_eq_true rfl) dX7_doTouch_66 ?_
                  obtain ⟨vS_69, vF_69, hc69, h⟩ := bd2_e h
                  refine wcV (As := [.int (0 : Int32), .int v4, .int v5, .int r66]) (rest := []) ⟨hx, hb, hml, hown, hts⟩ (c_X7_doDeed l X gi gl ga vS vF sN sF (0 : Int32) v4 v5 r66 hc69) ⟨w_722, w_442, w_443, w_53, w_444⟩ hd_X7_doDeed rfl rfl ⟨(Nat.le_of_ble_eq_true rfl), (Nat.le_of_ble_eq_true rfl)⟩ ⟨Nat.zero_le _, Nat.zero_le _⟩ gPre_blind (va_recv hK hP (ci := 3) rfl (cG_v (by decide : 0 < 4))) (gPre_call hP hK hN hZ hS) hS (fun _ h => h) rfl rfl hl.1 (Nat.le_of_ble_eq_true rfl) dX7_doTouch_69 (fun H locs hP _ hS => ?_)
                  have hP : va_P X.1 vwCl (cG X gi gl ga vS_69 vF_69 sN sF) H := hP
                  refine W.eq (g2 := F0 m 72 ls []) rfl ?_
                  cases h
                  exact W.vret hx hb hr (fun t ht _ => ⟨rfl, by rw [ht]; exact hP, hS.F ht⟩) hS.2.2 dX7_doTouch_72
              · replace h := if_t c47 h
                refine lv_goto (tgt := 77) hx hb dX7_doTouch_50 (by decide) ?_
                refine lv_iinc (v := (v5 + (1 : Int32))) (lv' := [(5, .int (v5 + (1 : Int32))), (0, .ref (xAV X (0) 0)), (2, .int v2), (3, .int v3), (4, .int v4)]) hx hb dX7_doTouch_77 hl (k := 4) rfl rfl (by decide) rfl (fun ls hl => ?_)
                refine lv_goto (tgt := 24) hx hb dX7_doTouch_80 (by decide) ?_
                exact ih24 v2 v3 v4 (v5 + (1 : Int32)) vS vF _ _ ls (lv_sub hl [1, 2, 3, 4, 0] rfl) hP hS h
      refine lv_iload hx hb dX7_doTouch_12 (lv_at hl 3 rfl) ?_
      refine lv_aload_n hx hb dX7_doTouch_14 rfl (lv_at hl 0 rfl) ?_
      refine rg_V_people (q := (0)) hx hb hT hown hK hP (by decide : 0 < 4) w_82 dX7_doTouch_15 ?_
      refine lv_icmp_ge (tgt := 89) hx hb dX7_doTouch_18 (by decide) (fun c18 => ?_) (fun c18 => ?_)
      · replace h := if_t c18 h
        cases h
        exact W.vret hx hb hr (fun t ht _ => ⟨rfl, by rw [ht]; exact hP, hS.F ht⟩) hS.2.2 dX7_doTouch_89
      · replace h := if_f c18 h
        refine lv_iconst (v := 0) hx hb dX7_doTouch_21 (by decide) ?_
        refine lv_istore (lv' := [(5, .int (0 : Int32)), (0, .ref (xAV X (0) 0)), (2, .int v2), (3, .int v3), (4, .int v4)]) hx hb dX7_doTouch_22 hl (by decide) rfl (fun ls hl => ?_)
        exact hL24 500 v2 v3 v4 (0 : Int32) vS vF _ _ ls (lv_sub hl [1, 2, 3, 4, 0] rfl) hP hS h
  rw [X7_doTouch] at h
  refine lv_aload_n hx hb dX7_doTouch_0 rfl (lv_at hl 0 rfl) ?_
  obtain ⟨r1, hc1, h⟩ := Option.bind_eq_some_iff.mp h
  refine rcV (As := []) (rest := []) ⟨hx, hb, hml, hown, hts⟩ (c_X7_stuckCount l X gi gl ga vS vF sN sF hc1) ⟨w_386, w_387, w_388, w_53, w_389⟩ hd_X7_stuckCount rfl rfl ⟨(Nat.le_of_ble_eq_true rfl), (Nat.le_of_ble_eq_true rfl)⟩ ⟨Nat.zero_le _, Nat.zero_le _⟩ gPre_blind (va_recv hK hP (ci := 3) rfl (cG_v (by decide : 0 < 4))) (gPre_call hP hK hN hZ hS) rfl rfl hl.1 (Nat.le_of_ble_eq_true rfl) dX7_doTouch_1 ?_
  refine lv_iconst (v := 1) hx hb dX7_doTouch_4 (by decide) ?_
  refine lv_iadd hx hb dX7_doTouch_5 ?_
  refine lv_istore_n (lv' := [(2, .int (r1 + (1 : Int32))), (0, .ref (xAV X (0) 0)), (1, .int a1)]) hx hb dX7_doTouch_6 rfl hl (by decide) rfl (fun ls hl => ?_)
  refine lv_iload_n hx hb dX7_doTouch_7 rfl (lv_at hl 2 rfl) ?_
  refine lv_istore_n (lv' := [(3, .int a1), (2, .int (r1 + (1 : Int32))), (0, .ref (xAV X (0) 0)), (1, .int a1)]) hx hb dX7_doTouch_8 rfl hl (by decide) rfl (fun ls hl => ?_)
  refine lv_iconst (v := 0) hx hb dX7_doTouch_9 (by decide) ?_
  refine lv_istore (lv' := [(4, .int (0 : Int32)), (3, .int a1), (2, .int (r1 + (1 : Int32))), (0, .ref (xAV X (0) 0)), (1, .int a1)]) hx hb dX7_doTouch_10 hl (by decide) rfl (fun ls hl => ?_)
  exact hL12 500 (r1 + (1 : Int32)) a1 (0 : Int32) vS vF _ _ ls (lv_sub hl [3, 2, 1, 0] rfl) hP hS h
set_option maxRecDepth 100000 in
set_option maxHeartbeats 4000000 in
theorem c_X4_tooWide (l : Launch) (X : gX) (gi : Nat → Int32) (gl : Nat → Int64) (ga : Nat → Nat → Int32) (vS : Nat → Nat → Int32) (vF : Nat → Nat → Nat → Int32) (sN : Nat → Int32) (sF : Nat → Nat → Int32) (a1 : Int32) (a2 : Int32) {o0 : Int32} (h : X4_tooWide vS vF a1 a2 = some o0) : Met l yX4_tooWide (Cond.code yX4_tooWide cX4_tooWide 4 (some .int) :: gT) { frames := 2, cells := 0, slots := 0, locals := 44 } (va_Pc [.ref (xAV X (0) 0), .int a1, .int a2] (gPre X gi gl ga vS vF sN sF)) (k2_QcV (.int o0)) 0 0 (fun _ => False) := by
  refine Met.ofW (cc := cX4_tooWide) (maxL := 4) (ret := (some .int)) (by decide) rfl ?_
  intro p e s m args below meth c s₁ B hml hv
  obtain ⟨rfl, hP, hK, hN, hZ⟩ := hv
  have hx := B.exec
  have hb := B.bytes
  have hr := B.returns
  have hts := atoms_spec (ws := (Cond.code yX4_tooWide cX4_tooWide 4 (some .int) :: gT)) B.pre
  have hT : ∀ w ∈ gT, w.before _ s = true := fun w hw => hts w (List.mem_cons_of_mem _ hw)
  have hown : s.vm.findClass RX4 = some m.cls := findClass_of_methodNamed B.named
  have hlocks := B.notSynchronized
  have hS : va_S (gA X) s.heap s.heap [] := va_S.rf
  have hl := lv_entry ([.ref (xAV X (0) 0), .int a1, .int a2]) (n := 4) (Nat.le_of_ble_eq_true rfl)
  rw [lg_entry_eq]
  generalize (lg_sl ([.ref (xAV X (0) 0), .int a1, .int a2]) ++ List.replicate (4 - (lg_sl ([.ref (xAV X (0) 0), .int a1, .int a2])).length) Slot.unset).toArray = ls at hl ⊢
  have hl : lv_has ls 4 [(0, .ref (xAV X (0) 0)), (1, .int a1), (2, .int a2)] := hl
  have hL20 : ∀ (n20 : Nat) (v1 : Int32) (v2 : Int32) (v3 : Int32) (ls : Array Slot), lv_has ls 4 [(0, .ref (xAV X (0) 0)), (1, .int v1), (2, .int v2), (3, .int v3)] → X4_tooWide_20 vS vF n20 v1 v2 v3 = some o0 → W p l e (headSpec (Cond.code yX4_tooWide cX4_tooWide 4 (some .int) :: gT) { frames := 2, cells := 0, slots := 0, locals := 44 }).room s m [.ref (xAV X (0) 0), .int a1, .int a2].toArray below meth c s.heap [] 0 0 (MQ below (k2_QcV (.int o0)) [.ref (xAV X (0) 0), .int a1, .int a2].toArray s 0 0 (fun _ => False)) (F0 m 20 ls []) := by
    intro n20
    induction n20 with
    | zero =>
      intro v1 v2 v3 ls hl h
      rw [X4_tooWide_20] at h
      cases h
    | succ n20 ih20 =>
      intro v1 v2 v3 ls hl h
      rw [X4_tooWide_20] at h
      refine lv_iload_n hx hb dX4_tooWide_20 rfl (lv_at hl 3 rfl) ?_
      refine lv_aload_n hx hb dX4_tooWide_21 rfl (lv_at hl 0 rfl) ?_
      refine rg_V_people (q := (0)) hx hb hT hown hK hP (by decide : 0 < 4) w_84 dX4_tooWide_22 ?_
      refine lv_icmp_ge (tgt := 50) hx hb dX4_tooWide_25 (by decide) (fun c25 => ?_) (fun c25 => ?_)
      · replace h := if_t c25 h
        refine lv_bipush (v := -9) hx hb dX4_tooWide_50 (by decide) ?_
        cases h
        exact W.iret hx hb hr (fun t ht _ => ⟨rfl, ht⟩) (fun _ hq => by cases hq) dX4_tooWide_52
      · replace h := if_f c25 h
        refine lv_aload_n hx hb dX4_tooWide_28 rfl (lv_at hl 0 rfl) ?_
        refine lv_iload_n hx hb dX4_tooWide_29 rfl (lv_at hl 3 rfl) ?_
        obtain ⟨r30, hc30, h⟩ := Option.bind_eq_some_iff.mp h
        refine rcV (As := [.int v3]) (rest := []) ⟨hx, hb, hml, hown, hts⟩ (c_X7_hangers l X gi gl ga vS vF sN sF v3 hc30) ⟨w_531, w_400, w_401, w_53, w_402⟩ hd_X7_hangers rfl rfl ⟨(Nat.le_of_ble_eq_true rfl), (Nat.le_of_ble_eq_true rfl)⟩ ⟨Nat.zero_le _, Nat.zero_le _⟩ gPre_blind (va_recv hK hP (ci := 3) rfl (cG_v (by decide : 0 < 4))) (gPre_call hP hK hN hZ hS) rfl rfl hl.1 (Nat.le_of_ble_eq_true rfl) dX4_tooWide_30 ?_
        refine lv_iload_n hx hb dX4_tooWide_33 rfl (lv_at hl 1 rfl) ?_
        refine lv_iand hx hb dX4_tooWide_34 ?_
        obtain ⟨r35, hc35, h⟩ := Option.bind_eq_some_iff.mp h
        refine rcS (As := [.int (r30 &&& v1)]) (rest := []) ⟨hx, hb, hml, hown, hts⟩ (c_J6_bitCount_0f7a4 l (r30 &&& v1) hc35) ⟨w_532, w_357, w_63, w_358⟩ hd_J6_bitCount_0f7a4 rfl rfl ⟨(Nat.le_of_ble_eq_true rfl), (Nat.le_of_ble_eq_true rfl)⟩ ⟨Nat.zero_le _, Nat.zero_le _⟩ (fun _ _ _ _ h => h) (fun _ _ _ => trivial) rfl rfl hl.1 (Nat.le_of_ble_eq_true rfl) dX4_tooWide_35 ?_
        refine lv_iload_n hx hb dX4_tooWide_38 rfl (lv_at hl 2 rfl) ?_
        refine lv_icmp_le (tgt := 44) hx hb dX4_tooWide_39 (by decide) (fun c39 => ?_) (fun c39 => ?_)
        · replace h := if_t c39 h
          refine lv_iinc (v := (v3 + (1 : Int32))) (lv' := [(3, .int (v3 + (1 : Int32))), (0, .ref (xAV X (0) 0)), (1, .int v1), (2, .int v2)]) hx hb dX4_tooWide_44 hl (k := 3) rfl rfl (by decide) rfl (fun ls hl => ?_)
          refine lv_goto (tgt := 20) hx hb dX4_tooWide_47 (by decide) ?_
          exact ih20 v1 v2 (v3 + (1 : Int32)) ls (lv_sub hl [1, 2, 3, 0] rfl) h
        · replace h := if_f c39 h
          refine lv_iload_n hx hb dX4_tooWide_42 rfl (lv_at hl 3 rfl) ?_
          cases h
          exact W.iret hx hb hr (fun t ht _ => ⟨rfl, ht⟩) (fun _ hq => by cases hq) dX4_tooWide_43
  rw [X4_tooWide] at h
  refine lv_aload_n hx hb dX4_tooWide_0 rfl (lv_at hl 0 rfl) ?_
  refine lv_bipush (v := 9) hx hb dX4_tooWide_1 (by decide) ?_
  obtain ⟨r3, hc3, h⟩ := Option.bind_eq_some_iff.mp h
  refine rcV (As := [.int (9 : Int32)]) (rest := []) ⟨hx, hb, hml, hown, hts⟩ (c_X7_hangers l X gi gl ga vS vF sN sF (9 : Int32) hc3) ⟨w_531, w_400, w_401, w_53, w_402⟩ hd_X7_hangers rfl rfl ⟨(Nat.le_of_ble_eq_true rfl), (Nat.le_of_ble_eq_true rfl)⟩ ⟨Nat.zero_le _, Nat.zero_le _⟩ gPre_blind (va_recv hK hP (ci := 3) rfl (cG_v (by decide : 0 < 4))) (gPre_call hP hK hN hZ hS) rfl rfl hl.1 (Nat.le_of_ble_eq_true rfl) dX4_tooWide_3 ?_
  refine lv_iload_n hx hb dX4_tooWide_6 rfl (lv_at hl 1 rfl) ?_
  refine lv_iand hx hb dX4_tooWide_7 ?_
  obtain ⟨r8, hc8, h⟩ := Option.bind_eq_some_iff.mp h
  refine rcS (As := [.int (r3 &&& a1)]) (rest := []) ⟨hx, hb, hml, hown, hts⟩ (c_J6_bitCount_0f7a4 l (r3 &&& a1) hc8) ⟨w_532, w_357, w_63, w_358⟩ hd_J6_bitCount_0f7a4 rfl rfl ⟨(Nat.le_of_ble_eq_true rfl), (Nat.le_of_ble_eq_true rfl)⟩ ⟨Nat.zero_le _, Nat.zero_le _⟩ (fun _ _ _ _ h => h) (fun _ _ _ => trivial) rfl rfl hl.1 (Nat.le_of_ble_eq_true rfl) dX4_tooWide_8 ?_
  refine lv_iload_n hx hb dX4_tooWide_11 rfl (lv_at hl 2 rfl) ?_
  refine lv_icmp_le (tgt := 18) hx hb dX4_tooWide_12 (by decide) (fun c12 => ?_) (fun c12 => ?_)
  · replace h := if_t c12 h
    refine lv_iconst (v := 0) hx hb dX4_tooWide_18 (by decide) ?_
    refine lv_istore_n (lv' := [(3, .int (0 : Int32)), (0, .ref (xAV X (0) 0)), (1, .int a1), (2, .int a2)]) hx hb dX4_tooWide_19 rfl hl (by decide) rfl (fun ls hl => ?_)
    exact hL20 500 a1 a2 (0 : Int32) ls (lv_sub hl [1, 2, 3, 0] rfl) h
  · replace h := if_f c12 h
    refine lv_bipush (v := 9) hx hb dX4_tooWide_15 (by decide) ?_
    cases h
    exact W.iret hx hb hr (fun t ht _ => ⟨rfl, ht⟩) (fun _ hq => by cases hq) dX4_tooWide_17
set_option maxRecDepth 100000 in
set_option maxHeartbeats 4000000 in
theorem c_X4_tooDeep (l : Launch) (X : gX) (gi : Nat → Int32) (gl : Nat → Int64) (ga : Nat → Nat → Int32) (vS : Nat → Nat → Int32) (vF : Nat → Nat → Nat → Int32) (sN : Nat → Int32) (sF : Nat → Nat → Int32) (a1 : Int32) (a2 : Int32) {o0 : Int32} (h : X4_tooDeep vS vF a1 a2 = some o0) : Met l yX4_tooDeep (Cond.code yX4_tooDeep cX4_tooDeep 5 (some .int) :: gT) { frames := 3, cells := 0, slots := 0, locals := 66 } (va_Pc [.ref (xAV X (0) 0), .int a1, .int a2] (gPre X gi gl ga vS vF sN sF)) (k2_QcV (.int o0)) 0 0 (fun _ => False) := by
  refine Met.ofW (cc := cX4_tooDeep) (maxL := 5) (ret := (some .int)) (by decide) rfl ?_
  intro p e s m args below meth c s₁ B hml hv
  obtain ⟨rfl, hP, hK, hN, hZ⟩ := hv
  have hx := B.exec
  have hb := B.bytes
  have hr := B.returns
  have hts := atoms_spec (ws := (Cond.code yX4_tooDeep cX4_tooDeep 5 (some .int) :: gT)) B.pre
  have hT : ∀ w ∈ gT, w.before _ s = true := fun w hw => hts w (List.mem_cons_of_mem _ hw)
  have hown : s.vm.findClass RX4 = some m.cls := findClass_of_methodNamed B.named
  have hlocks := B.notSynchronized
  have hS : va_S (gA X) s.heap s.heap [] := va_S.rf
  have hl := lv_entry ([.ref (xAV X (0) 0), .int a1, .int a2]) (n := 5) (Nat.le_of_ble_eq_true rfl)
  rw [lg_entry_eq]
  generalize (lg_sl ([.ref (xAV X (0) 0), .int a1, .int a2]) ++ List.replicate (5 - (lg_sl ([.ref (xAV X (0) 0), .int a1, .int a2])).length) Slot.unset).toArray = ls at hl ⊢
  have hl : lv_has ls 5 [(0, .ref (xAV X (0) 0)), (1, .int a1), (2, .int a2)] := hl
  have hL5 : ∀ (n5 : Nat) (v1 : Int32) (v2 : Int32) (v3 : Int32) (v4 : Int32) (ls : Array Slot), lv_has ls 5 [(0, .ref (xAV X (0) 0)), (1, .int v1), (2, .int v2), (3, .int v3), (4, .int v4)] → X4_tooDeep_5 vS vF n5 v1 v2 v3 v4 = some o0 → W p l e (headSpec (Cond.code yX4_tooDeep cX4_tooDeep 5 (some .int) :: gT) { frames := 3, cells := 0, slots := 0, locals := 66 }).room s m [.ref (xAV X (0) 0), .int a1, .int a2].toArray below meth c s.heap [] 0 0 (MQ below (k2_QcV (.int o0)) [.ref (xAV X (0) 0), .int a1, .int a2].toArray s 0 0 (fun _ => False)) (F0 m 5 ls []) := by
    intro n5
    induction n5 with
    | zero =>
      intro v1 v2 v3 v4 ls hl h
      rw [X4_tooDeep_5] at h
      cases h
    | succ n5 ih5 =>
      intro v1 v2 v3 v4 ls hl h
      rw [X4_tooDeep_5] at h
      refine lv_iload hx hb dX4_tooDeep_5 (lv_at hl 4 rfl) ?_
      refine lv_aload_n hx hb dX4_tooDeep_7 rfl (lv_at hl 0 rfl) ?_
      refine rg_V_people (q := (0)) hx hb hT hown hK hP (by decide : 0 < 4) w_84 dX4_tooDeep_8 ?_
      refine lv_icmp_ge (tgt := 46) hx hb dX4_tooDeep_11 (by decide) (fun c11 => ?_) (fun c11 => ?_)
      · replace h := if_t c11 h
        refine lv_iload_n hx hb dX4_tooDeep_46 rfl (lv_at hl 3 rfl) ?_
        cases h
        exact W.iret hx hb hr (fun t ht _ => ⟨rfl, ht⟩) (fun _ hq => by cases hq) dX4_tooDeep_47
      · replace h := if_f c11 h
        refine lv_iload_n hx hb dX4_tooDeep_14 rfl (lv_at hl 1 rfl) ?_
        refine lv_iload hx hb dX4_tooDeep_15 (lv_at hl 4 rfl) ?_
        refine lv_ishr hx hb dX4_tooDeep_17 ?_
        refine lv_iconst (v := 1) hx hb dX4_tooDeep_18 (by decide) ?_
        refine lv_iand hx hb dX4_tooDeep_19 ?_
        refine lv_if_eq (tgt := 40) hx hb dX4_tooDeep_20 (by decide) (fun c20 => ?_) (fun c20 => ?_)
        · replace h := if_t c20 h
          refine lv_iinc (v := (v4 + (1 : Int32))) (lv' := [(4, .int (v4 + (1 : Int32))), (0, .ref (xAV X (0) 0)), (1, .int v1), (2, .int v2), (3, .int v3)]) hx hb dX4_tooDeep_40 hl (k := 4) rfl rfl (by decide) rfl (fun ls hl => ?_)
          refine lv_goto (tgt := 5) hx hb dX4_tooDeep_43 (by decide) ?_
          exact ih5 v1 v2 v3 (v4 + (1 : Int32)) ls (lv_sub hl [1, 2, 3, 4, 0] rfl) h
        · replace h := if_f c20 h
          refine lv_aload_n hx hb dX4_tooDeep_23 rfl (lv_at hl 0 rfl) ?_
          refine lv_iload hx hb dX4_tooDeep_24 (lv_at hl 4 rfl) ?_
          obtain ⟨r26, hc26, h⟩ := Option.bind_eq_some_iff.mp h
          refine rcV (As := [.int v4]) (rest := []) ⟨hx, hb, hml, hown, hts⟩ (c_X7_depth l X gi gl ga vS vF sN sF v4 hc26) ⟨w_540, w_345, w_346, w_53, w_347⟩ hd_X7_depth rfl rfl ⟨(Nat.le_of_ble_eq_true rfl), (Nat.le_of_ble_eq_true rfl)⟩ ⟨Nat.zero_le _, Nat.zero_le _⟩ gPre_blind (va_recv hK hP (ci := 3) rfl (cG_v (by decide : 0 < 4))) (gPre_call hP hK hN hZ hS) rfl rfl hl.1 (Nat.le_of_ble_eq_true rfl) dX4_tooDeep_26 ?_
          refine lv_iload_n hx hb dX4_tooDeep_29 rfl (lv_at hl 2 rfl) ?_
          refine lv_icmp_le (tgt := 40) hx hb dX4_tooDeep_30 (by decide) (fun c30 => ?_) (fun c30 => ?_)
          · replace h := if_t c30 h
            refine lv_iinc (v := (v4 + (1 : Int32))) (lv' := [(4, .int (v4 + (1 : Int32))), (0, .ref (xAV X (0) 0)), (1, .int v1), (2, .int v2), (3, .int v3)]) hx hb dX4_tooDeep_40 hl (k := 4) rfl rfl (by decide) rfl (fun ls hl => ?_)
            refine lv_goto (tgt := 5) hx hb dX4_tooDeep_43 (by decide) ?_
            exact ih5 v1 v2 v3 (v4 + (1 : Int32)) ls (lv_sub hl [1, 2, 3, 4, 0] rfl) h
          · replace h := if_f c30 h
            refine lv_iload_n hx hb dX4_tooDeep_33 rfl (lv_at hl 3 rfl) ?_
            refine lv_iconst (v := 1) hx hb dX4_tooDeep_34 (by decide) ?_
            refine lv_iload hx hb dX4_tooDeep_35 (lv_at hl 4 rfl) ?_
            refine lv_ishl hx hb dX4_tooDeep_37 ?_
            refine lv_ior hx hb dX4_tooDeep_38 ?_
            refine lv_istore_n (lv' := [(3, .int (v3 ||| ((1 : Int32) <<< (v4 &&& 31)))), (0, .ref (xAV X (0) 0)), (1, .int v1), (2, .int v2), (4, .int v4)]) hx hb dX4_tooDeep_39 rfl hl (by decide) rfl (fun ls hl => ?_)
            refine lv_iinc (v := (v4 + (1 : Int32))) (lv' := [(4, .int (v4 + (1 : Int32))), (3, .int (v3 ||| ((1 : Int32) <<< (v4 &&& 31)))), (0, .ref (xAV X (0) 0)), (1, .int v1), (2, .int v2)]) hx hb dX4_tooDeep_40 hl (k := 4) rfl rfl (by decide) rfl (fun ls hl => ?_)
            refine lv_goto (tgt := 5) hx hb dX4_tooDeep_43 (by decide) ?_
            exact ih5 v1 v2 (v3 ||| ((1 : Int32) <<< (v4 &&& 31))) (v4 + (1 : Int32)) ls (lv_sub hl [2, 3, 4, 1, 0] rfl) h
  rw [X4_tooDeep] at h
  refine lv_iconst (v := 0) hx hb dX4_tooDeep_0 (by decide) ?_
  refine lv_istore_n (lv' := [(3, .int (0 : Int32)), (0, .ref (xAV X (0) 0)), (1, .int a1), (2, .int a2)]) hx hb dX4_tooDeep_1 rfl hl (by decide) rfl (fun ls hl => ?_)
  refine lv_iconst (v := 0) hx hb dX4_tooDeep_2 (by decide) ?_
  refine lv_istore (lv' := [(4, .int (0 : Int32)), (3, .int (0 : Int32)), (0, .ref (xAV X (0) 0)), (1, .int a1), (2, .int a2)]) hx hb dX4_tooDeep_3 hl (by decide) rfl (fun ls hl => ?_)
  exact hL5 500 a1 a2 (0 : Int32) (0 : Int32) ls (lv_sub hl [2, 3, 4, 1, 0] rfl) h
set_option maxRecDepth 100000 in
set_option maxHeartbeats 4000000 in
theorem c_X4_passes (l : Launch) (X : gX) (gi : Nat → Int32) (gl : Nat → Int64) (ga : Nat → Nat → Int32) (vS : Nat → Nat → Int32) (vF : Nat → Nat → Nat → Int32) (sN : Nat → Int32) (sF : Nat → Nat → Int32) (a1 : Int32) (a2 : Int32) (a3 : Int32) {o0 : Int32} (h : X4_passes vS vF a1 a2 a3 = some o0) : Met l yX4_passes (Cond.code yX4_passes cX4_passes 4 (some .boolean) :: gT) { frames := 4, cells := 0, slots := 0, locals := 90 } (va_Pc [.ref (xAV X (0) 0), .int a1, .int a2, .int a3] (gPre X gi gl ga vS vF sN sF)) (k2_QcV (.int o0)) 0 0 (fun _ => False) := by
  refine Met.ofW (cc := cX4_passes) (maxL := 4) (ret := (some .boolean)) (by decide) rfl ?_
  intro p e s m args below meth c s₁ B hml hv
  obtain ⟨rfl, hP, hK, hN, hZ⟩ := hv
  have hx := B.exec
  have hb := B.bytes
  have hr := B.returns
  have hts := atoms_spec (ws := (Cond.code yX4_passes cX4_passes 4 (some .boolean) :: gT)) B.pre
  have hT : ∀ w ∈ gT, w.before _ s = true := fun w hw => hts w (List.mem_cons_of_mem _ hw)
  have hown : s.vm.findClass RX4 = some m.cls := findClass_of_methodNamed B.named
  have hlocks := B.notSynchronized
  have hS : va_S (gA X) s.heap s.heap [] := va_S.rf
  have hl := lv_entry ([.ref (xAV X (0) 0), .int a1, .int a2, .int a3]) (n := 4) (Nat.le_of_ble_eq_true rfl)
  rw [lg_entry_eq]
  generalize (lg_sl ([.ref (xAV X (0) 0), .int a1, .int a2, .int a3]) ++ List.replicate (4 - (lg_sl ([.ref (xAV X (0) 0), .int a1, .int a2, .int a3])).length) Slot.unset).toArray = ls at hl ⊢
  have hl : lv_has ls 4 [(0, .ref (xAV X (0) 0)), (1, .int a1), (2, .int a2), (3, .int a3)] := hl
  rw [X4_passes] at h
  refine lv_aload_n hx hb dX4_passes_0 rfl (lv_at hl 0 rfl) ?_
  refine lv_iload_n hx hb dX4_passes_1 rfl (lv_at hl 1 rfl) ?_
  refine lv_iload_n hx hb dX4_passes_2 rfl (lv_at hl 3 rfl) ?_
  obtain ⟨r3, hc3, h⟩ := Option.bind_eq_some_iff.mp h
  refine rcS (As := [.ref (xAV X (0) 0), .int a1, .int a3]) (rest := []) ⟨hx, hb, hml, hown, hts⟩ (c_X4_tooDeep l X gi gl ga vS vF sN sF a1 a3 hc3) ⟨w_557, w_538, w_64, w_539⟩ hd_X4_tooDeep rfl rfl ⟨(Nat.le_of_ble_eq_true rfl), (Nat.le_of_ble_eq_true rfl)⟩ ⟨Nat.zero_le _, Nat.zero_le _⟩ gPre_blind (gPre_call hP hK hN hZ hS) rfl rfl hl.1 (Nat.le_of_ble_eq_true rfl) dX4_passes_3 ?_
  refine lv_if_ne (tgt := 24) hx hb dX4_passes_6 (by decide) (fun c6 => ?_) (fun c6 => ?_)
  · replace h := if_f c6 h
    refine lv_iconst (v := 0) hx hb dX4_passes_24 (by decide) ?_
    cases h
    exact W.zret (ty := .boolean) hx hb hr rfl (fun t ht _ => ⟨rfl, ht⟩) (fun _ hq => by cases hq) dX4_passes_25
  · replace h := if_t c6 h
    refine lv_aload_n hx hb dX4_passes_9 rfl (lv_at hl 0 rfl) ?_
    refine lv_iload_n hx hb dX4_passes_10 rfl (lv_at hl 1 rfl) ?_
    refine lv_iload_n hx hb dX4_passes_11 rfl (lv_at hl 2 rfl) ?_
    obtain ⟨r12, hc12, h⟩ := Option.bind_eq_some_iff.mp h
    refine rcS (As := [.ref (xAV X (0) 0), .int a1, .int a2]) (rest := []) ⟨hx, hb, hml, hown, hts⟩ (c_X4_tooWide l X gi gl ga vS vF sN sF a1 a2 hc12) ⟨w_558, w_529, w_64, w_530⟩ hd_X4_tooWide rfl rfl ⟨(Nat.le_of_ble_eq_true rfl), (Nat.le_of_ble_eq_true rfl)⟩ ⟨Nat.zero_le _, Nat.zero_le _⟩ gPre_blind (gPre_call hP hK hN hZ hS) rfl rfl hl.1 (Nat.le_of_ble_eq_true rfl) dX4_passes_12 ?_
    refine lv_bipush (v := -9) hx hb dX4_passes_15 (by decide) ?_
    refine lv_icmp_ne (tgt := 24) hx hb dX4_passes_17 (by decide) (fun c17 => ?_) (fun c17 => ?_)
    · replace h := if_f c17 h
      refine lv_iconst (v := 0) hx hb dX4_passes_24 (by decide) ?_
      cases h
      exact W.zret (ty := .boolean) hx hb hr rfl (fun t ht _ => ⟨rfl, ht⟩) (fun _ hq => by cases hq) dX4_passes_25
    · replace h := if_t c17 h
      refine lv_iconst (v := 1) hx hb dX4_passes_20 (by decide) ?_
      refine lv_goto (tgt := 25) hx hb dX4_passes_21 (by decide) ?_
      cases h
      exact W.zret (ty := .boolean) hx hb hr rfl (fun t ht _ => ⟨rfl, ht⟩) (fun _ hq => by cases hq) dX4_passes_25
set_option maxRecDepth 100000 in
set_option maxHeartbeats 4000000 in
theorem c_X4_left (l : Launch) (X : gX) (gi : Nat → Int32) (gl : Nat → Int64) (ga : Nat → Nat → Int32) (vS : Nat → Nat → Int32) (vF : Nat → Nat → Nat → Int32) (sN : Nat → Int32) (sF : Nat → Nat → Int32) (a1 : Int32) {o0 : Int32} (h : X4_left vS vF a1 = some o0) : Met l yX4_left (Cond.code yX4_left cX4_left 4 (some .int) :: gT) { frames := 2, cells := 0, slots := 0, locals := 45 } (va_Pc [.ref (xAV X (0) 0), .int a1] (gPre X gi gl ga vS vF sN sF)) (k2_QcV (.int o0)) 0 0 (fun _ => False) := by
  refine Met.ofW (cc := cX4_left) (maxL := 4) (ret := (some .int)) (by decide) rfl ?_
  intro p e s m args below meth c s₁ B hml hv
  obtain ⟨rfl, hP, hK, hN, hZ⟩ := hv
  have hx := B.exec
  have hb := B.bytes
  have hr := B.returns
  have hts := atoms_spec (ws := (Cond.code yX4_left cX4_left 4 (some .int) :: gT)) B.pre
  have hT : ∀ w ∈ gT, w.before _ s = true := fun w hw => hts w (List.mem_cons_of_mem _ hw)
  have hown : s.vm.findClass RX4 = some m.cls := findClass_of_methodNamed B.named
  have hlocks := B.notSynchronized
  have hS : va_S (gA X) s.heap s.heap [] := va_S.rf
  have hl := lv_entry ([.ref (xAV X (0) 0), .int a1]) (n := 4) (Nat.le_of_ble_eq_true rfl)
  rw [lg_entry_eq]
  generalize (lg_sl ([.ref (xAV X (0) 0), .int a1]) ++ List.replicate (4 - (lg_sl ([.ref (xAV X (0) 0), .int a1])).length) Slot.unset).toArray = ls at hl ⊢
  have hl : lv_has ls 4 [(0, .ref (xAV X (0) 0)), (1, .int a1)] := hl
  have hL4 : ∀ (n4 : Nat) (v1 : Int32) (v2 : Int32) (v3 : Int32) (ls : Array Slot), lv_has ls 4 [(0, .ref (xAV X (0) 0)), (1, .int v1), (2, .int v2), (3, .int v3)] → X4_left_4 vS vF n4 v1 v2 v3 = some o0 → W p l e (headSpec (Cond.code yX4_left cX4_left 4 (some .int) :: gT) { frames := 2, cells := 0, slots := 0, locals := 45 }).room s m [.ref (xAV X (0) 0), .int a1].toArray below meth c s.heap [] 0 0 (MQ below (k2_QcV (.int o0)) [.ref (xAV X (0) 0), .int a1].toArray s 0 0 (fun _ => False)) (F0 m 4 ls []) := by
    intro n4
    induction n4 with
    | zero =>
      intro v1 v2 v3 ls hl h
      rw [X4_left_4] at h
      cases h
    | succ n4 ih4 =>
      intro v1 v2 v3 ls hl h
      rw [X4_left_4] at h
      refine lv_iload_n hx hb dX4_left_4 rfl (lv_at hl 3 rfl) ?_
      refine lv_aload_n hx hb dX4_left_5 rfl (lv_at hl 0 rfl) ?_
      refine rg_V_people (q := (0)) hx hb hT hown hK hP (by decide : 0 < 4) w_84 dX4_left_6 ?_
      refine lv_icmp_ge (tgt := 42) hx hb dX4_left_9 (by decide) (fun c9 => ?_) (fun c9 => ?_)
      · replace h := if_t c9 h
        refine lv_iload_n hx hb dX4_left_42 rfl (lv_at hl 2 rfl) ?_
        cases h
        exact W.iret hx hb hr (fun t ht _ => ⟨rfl, ht⟩) (fun _ hq => by cases hq) dX4_left_43
      · replace h := if_f c9 h
        refine lv_aload_n hx hb dX4_left_12 rfl (lv_at hl 0 rfl) ?_
        refine lv_iload_n hx hb dX4_left_13 rfl (lv_at hl 3 rfl) ?_
        obtain ⟨r14, hc14, h⟩ := Option.bind_eq_some_iff.mp h
        refine rcV (As := [.int v3]) (rest := []) ⟨hx, hb, hml, hown, hts⟩ (c_X7_isStuck l X gi gl ga vS vF sN sF v3 hc14) ⟨w_552, w_353, w_354, w_53, w_355⟩ hd_X7_isStuck rfl rfl ⟨(Nat.le_of_ble_eq_true rfl), (Nat.le_of_ble_eq_true rfl)⟩ ⟨Nat.zero_le _, Nat.zero_le _⟩ gPre_blind (va_recv hK hP (ci := 3) rfl (cG_v (by decide : 0 < 4))) (gPre_call hP hK hN hZ hS) rfl rfl hl.1 (Nat.le_of_ble_eq_true rfl) dX4_left_14 ?_
        refine lv_if_eq (tgt := 36) hx hb dX4_left_17 (by decide) (fun c17 => ?_) (fun c17 => ?_)
        · replace h := if_t c17 h
          refine lv_iinc (v := (v3 + (1 : Int32))) (lv' := [(3, .int (v3 + (1 : Int32))), (0, .ref (xAV X (0) 0)), (1, .int v1), (2, .int v2)]) hx hb dX4_left_36 hl (k := 3) rfl rfl (by decide) rfl (fun ls hl => ?_)
          refine lv_goto (tgt := 4) hx hb dX4_left_39 (by decide) ?_
          exact ih4 v1 v2 (v3 + (1 : Int32)) ls (lv_sub hl [1, 2, 3, 0] rfl) h
        · replace h := if_f c17 h
          refine lv_aload_n hx hb dX4_left_20 rfl (lv_at hl 0 rfl) ?_
          refine lv_iload_n hx hb dX4_left_21 rfl (lv_at hl 3 rfl) ?_
          obtain ⟨r22, hc22, h⟩ := Option.bind_eq_some_iff.mp h
          refine rcV (As := [.int v3]) (rest := []) ⟨hx, hb, hml, hown, hts⟩ (c_X7_chain l X gi gl ga vS vF sN sF v3 hc22) ⟨w_553, w_349, w_350, w_53, w_351⟩ hd_X7_chain rfl rfl ⟨(Nat.le_of_ble_eq_true rfl), (Nat.le_of_ble_eq_true rfl)⟩ ⟨Nat.zero_le _, Nat.zero_le _⟩ gPre_blind (va_recv hK hP (ci := 3) rfl (cG_v (by decide : 0 < 4))) (gPre_call hP hK hN hZ hS) rfl rfl hl.1 (Nat.le_of_ble_eq_true rfl) dX4_left_22 ?_
          refine lv_iload_n hx hb dX4_left_25 rfl (lv_at hl 1 rfl) ?_
          refine lv_iand hx hb dX4_left_26 ?_
          refine lv_if_ne (tgt := 36) hx hb dX4_left_27 (by decide) (fun c27 => ?_) (fun c27 => ?_)
          · replace h := if_f c27 h
            refine lv_iinc (v := (v3 + (1 : Int32))) (lv' := [(3, .int (v3 + (1 : Int32))), (0, .ref (xAV X (0) 0)), (1, .int v1), (2, .int v2)]) hx hb dX4_left_36 hl (k := 3) rfl rfl (by decide) rfl (fun ls hl => ?_)
            refine lv_goto (tgt := 4) hx hb dX4_left_39 (by decide) ?_
            exact ih4 v1 v2 (v3 + (1 : Int32)) ls (lv_sub hl [1, 2, 3, 0] rfl) h
          · replace h := if_t c27 h
            refine lv_iload_n hx hb dX4_left_30 rfl (lv_at hl 2 rfl) ?_
            refine lv_iconst (v := 1) hx hb dX4_left_31 (by decide) ?_
            refine lv_iload_n hx hb dX4_left_32 rfl (lv_at hl 3 rfl) ?_
            refine lv_ishl hx hb dX4_left_33 ?_
            refine lv_ior hx hb dX4_left_34 ?_
            refine lv_istore_n (lv' := [(2, .int (v2 ||| ((1 : Int32) <<< (v3 &&& 31)))), (0, .ref (xAV X (0) 0)), (1, .int v1), (3, .int v3)]) hx hb dX4_left_35 rfl hl (by decide) rfl (fun ls hl => ?_)
            refine lv_iinc (v := (v3 + (1 : Int32))) (lv' := [(3, .int (v3 + (1 : Int32))), (2, .int (v2 ||| ((1 : Int32) <<< (v3 &&& 31)))), (0, .ref (xAV X (0) 0)), (1, .int v1)]) hx hb dX4_left_36 hl (k := 3) rfl rfl (by decide) rfl (fun ls hl => ?_)
            refine lv_goto (tgt := 4) hx hb dX4_left_39 (by decide) ?_
            exact ih4 v1 (v2 ||| ((1 : Int32) <<< (v3 &&& 31))) (v3 + (1 : Int32)) ls (lv_sub hl [2, 3, 1, 0] rfl) h
  rw [X4_left] at h
  refine lv_iconst (v := 0) hx hb dX4_left_0 (by decide) ?_
  refine lv_istore_n (lv' := [(2, .int (0 : Int32)), (0, .ref (xAV X (0) 0)), (1, .int a1)]) hx hb dX4_left_1 rfl hl (by decide) rfl (fun ls hl => ?_)
  refine lv_iconst (v := 0) hx hb dX4_left_2 (by decide) ?_
  refine lv_istore_n (lv' := [(3, .int (0 : Int32)), (2, .int (0 : Int32)), (0, .ref (xAV X (0) 0)), (1, .int a1)]) hx hb dX4_left_3 rfl hl (by decide) rfl (fun ls hl => ?_)
  exact hL4 500 a1 (0 : Int32) (0 : Int32) ls (lv_sub hl [2, 3, 1, 0] rfl) h
set_option maxRecDepth 100000 in
set_option maxHeartbeats 4000000 in
theorem c_X4_cuts (l : Launch) (X : gX) (gi : Nat → Int32) (gl : Nat → Int64) (ga : Nat → Nat → Int32) (vS : Nat → Nat → Int32) (vF : Nat → Nat → Nat → Int32) (sN : Nat → Int32) (sF : Nat → Nat → Int32) (a1 : Int32) (a2 : Int32) {o0 : Int32} (h : X4_cuts vS vF a1 a2 = some o0) : Met l yX4_cuts (Cond.code yX4_cuts cX4_cuts 7 (some .int) :: gT) { frames := 5, cells := 0, slots := 0, locals := 113 } (va_Pc [.ref (xAV X (0) 0), .int a1, .int a2] (gPre X gi gl ga vS vF sN sF)) (k2_QcV (.int o0)) 0 0 (fun _ => False) := by
  refine Met.ofW (cc := cX4_cuts) (maxL := 7) (ret := (some .int)) (by decide) rfl ?_
  intro p e s m args below meth c s₁ B hml hv
  obtain ⟨rfl, hP, hK, hN, hZ⟩ := hv
  have hx := B.exec
  have hb := B.bytes
  have hr := B.returns
  have hts := atoms_spec (ws := (Cond.code yX4_cuts cX4_cuts 7 (some .int) :: gT)) B.pre
  have hT : ∀ w ∈ gT, w.before _ s = true := fun w hw => hts w (List.mem_cons_of_mem _ hw)
  have hown : s.vm.findClass RX4 = some m.cls := findClass_of_methodNamed B.named
  have hlocks := B.notSynchronized
  have hS : va_S (gA X) s.heap s.heap [] := va_S.rf
  have hl := lv_entry ([.ref (xAV X (0) 0), .int a1, .int a2]) (n := 7) (Nat.le_of_ble_eq_true rfl)
  rw [lg_entry_eq]
  generalize (lg_sl ([.ref (xAV X (0) 0), .int a1, .int a2]) ++ List.replicate (7 - (lg_sl ([.ref (xAV X (0) 0), .int a1, .int a2])).length) Slot.unset).toArray = ls at hl ⊢
  have hl : lv_has ls 7 [(0, .ref (xAV X (0) 0)), (1, .int a1), (2, .int a2)] := hl
  have hL11 : ∀ (n11 : Nat) (v1 : Int32) (v2 : Int32) (v3 : Int32) (v4 : Int32) (v5 : Int32) (ls : Array Slot), lv_has ls 7 [(0, .ref (xAV X (0) 0)), (1, .int v1), (2, .int v2), (3, .int v3), (4, .int v4), (5, .int v5)] → X4_cuts_11 vS vF n11 v1 v2 v3 v4 v5 = some o0 → W p l e (headSpec (Cond.code yX4_cuts cX4_cuts 7 (some .int) :: gT) { frames := 5, cells := 0, slots := 0, locals := 113 }).room s m [.ref (xAV X (0) 0), .int a1, .int a2].toArray below meth c s.heap [] 0 0 (MQ below (k2_QcV (.int o0)) [.ref (xAV X (0) 0), .int a1, .int a2].toArray s 0 0 (fun _ => False)) (F0 m 11 ls []) := by
    intro n11
    induction n11 with
    | zero =>
      intro v1 v2 v3 v4 v5 ls hl h
      rw [X4_cuts_11] at h
      cases h
    | succ n11 ih11 =>
      intro v1 v2 v3 v4 v5 ls hl h
      rw [X4_cuts_11] at h
      have hL37 : ∀ (v1 : Int32) (v2 : Int32) (v3 : Int32) (v4 : Int32) (v5 : Int32) (t0 : Int32) (ls : Array Slot), lv_has ls 7 [(0, .ref (xAV X (0) 0)), (1, .int v1), (2, .int v2), (3, .int v3), (4, .int v4), (5, .int v5)] → X4_cuts_37 vS vF (X4_cuts_11 vS vF n11) v1 v2 v3 v4 v5 t0 = some o0 → W p l e (headSpec (Cond.code yX4_cuts cX4_cuts 7 (some .int) :: gT) { frames := 5, cells := 0, slots := 0, locals := 113 }).room s m [.ref (xAV X (0) 0), .int a1, .int a2].toArray below meth c s.heap [] 0 0 (MQ below (k2_QcV (.int o0)) [.ref (xAV X (0) 0), .int a1, .int a2].toArray s 0 0 (fun _ => False)) (F0 m 37 ls [.int t0]) := by
        intro v1 v2 v3 v4 v5 t0 ls hl h
        rw [X4_cuts_37] at h
        refine lv_istore (lv' := [(6, .int t0), (0, .ref (xAV X (0) 0)), (1, .int v1), (2, .int v2), (3, .int v3), (4, .int v4), (5, .int v5)]) hx hb dX4_cuts_37 hl (by decide) rfl (fun ls hl => ?_)
        refine lv_iload hx hb dX4_cuts_39 (lv_at hl 0 rfl) ?_
        refine lv_if_eq (tgt := 72) hx hb dX4_cuts_41 (by decide) (fun c41 => ?_) (fun c41 => ?_)
        · replace h := if_t c41 h
          refine lv_iinc (v := (v5 + (1 : Int32))) (lv' := [(5, .int (v5 + (1 : Int32))), (6, .int t0), (0, .ref (xAV X (0) 0)), (1, .int v1), (2, .int v2), (3, .int v3), (4, .int v4)]) hx hb dX4_cuts_72 hl (k := 6) rfl rfl (by decide) rfl (fun ls hl => ?_)
          refine lv_goto (tgt := 11) hx hb dX4_cuts_75 (by decide) ?_
          exact ih11 v1 v2 v3 v4 (v5 + (1 : Int32)) ls (lv_sub hl [2, 3, 4, 5, 6, 0] rfl) h
        · replace h := if_f c41 h
          refine lv_iload hx hb dX4_cuts_44 (lv_at hl 6 rfl) ?_
          refine lv_iload_n hx hb dX4_cuts_46 rfl (lv_at hl 4 rfl) ?_
          refine lv_iconst (v := -1) hx hb dX4_cuts_47 (by decide) ?_
          refine lv_ixor hx hb dX4_cuts_48 ?_
          refine lv_iand hx hb dX4_cuts_49 ?_
          refine lv_if_ne (tgt := 72) hx hb dX4_cuts_50 (by decide) (fun c50 => ?_) (fun c50 => ?_)
          · replace h := if_f c50 h
            refine lv_iinc (v := (v5 + (1 : Int32))) (lv' := [(5, .int (v5 + (1 : Int32))), (6, .int t0), (0, .ref (xAV X (0) 0)), (1, .int v1), (2, .int v2), (3, .int v3), (4, .int v4)]) hx hb dX4_cuts_72 hl (k := 6) rfl rfl (by decide) rfl (fun ls hl => ?_)
            refine lv_goto (tgt := 11) hx hb dX4_cuts_75 (by decide) ?_
            exact ih11 v1 v2 v3 v4 (v5 + (1 : Int32)) ls (lv_sub hl [2, 3, 4, 5, 6, 0] rfl) h
          · replace h := if_t c50 h
            refine lv_aload_n hx hb dX4_cuts_53 rfl (lv_at hl 1 rfl) ?_
            refine lv_aload_n hx hb dX4_cuts_54 rfl (lv_at hl 1 rfl) ?_
            refine lv_iload hx hb dX4_cuts_55 (lv_at hl 6 rfl) ?_
            obtain ⟨r57, hc57, h⟩ := Option.bind_eq_some_iff.mp h
            refine rcS (As := [.ref (xAV X (0) 0), .int v5]) (rest := [.ref (xAV X (0) 0)]) ⟨hx, hb, hml, hown, hts⟩ (c_X4_left l X gi gl ga vS vF sN sF v5 hc57) ⟨w_549, w_550, w_64, w_551⟩ hd_X4_left rfl rfl ⟨(Nat.le_of_ble_eq_true rfl), (Nat.le_of_ble_eq_true rfl)⟩ ⟨Nat.zero_le _, Nat.zero_le _⟩ gPre_blind (gPre_call hP hK hN hZ hS) rfl rfl hl.1 (Nat.le_of_ble_eq_true rfl) dX4_cuts_57 ?_
            refine lv_iload_n hx hb dX4_cuts_60 rfl (lv_at hl 2 rfl) ?_
            refine lv_iload_n hx hb dX4_cuts_61 rfl (lv_at hl 3 rfl) ?_
            obtain ⟨r62, hc62, h⟩ := Option.bind_eq_some_iff.mp h
            refine rcS (As := [.ref (xAV X (0) 0), .int r57, .int v1, .int v2]) (rest := []) ⟨hx, hb, hml, hown, hts⟩ (c_X4_passes l X gi gl ga vS vF sN sF r57 v1 v2 hc62) ⟨w_554, w_555, w_64, w_556⟩ hd_X4_passes rfl rfl ⟨(Nat.le_of_ble_eq_true rfl), (Nat.le_of_ble_eq_true rfl)⟩ ⟨Nat.zero_le _, Nat.zero_le _⟩ gPre_blind (gPre_call hP hK hN hZ hS) rfl rfl hl.1 (Nat.le_of_ble_eq_true rfl) dX4_cuts_62 ?_
            refine lv_if_eq (tgt := 72) hx hb dX4_cuts_65 (by decide) (fun c65 => ?_) (fun c65 => ?_)
            · replace h := if_t c65 h
              refine lv_iinc (v := (v5 + (1 : Int32))) (lv' := [(5, .int (v5 + (1 : Int32))), (6, .int t0), (0, .ref (xAV X (0) 0)), (1, .int v1), (2, .int v2), (3, .int v3), (4, .int v4)]) hx hb dX4_cuts_72 hl (k := 6) rfl rfl (by decide) rfl (fun ls hl => ?_)
              refine lv_goto (tgt := 11) hx hb dX4_cuts_75 (by decide) ?_
              exact ih11 v1 v2 v3 v4 (v5 + (1 : Int32)) ls (lv_sub hl [2, 3, 4, 5, 6, 0] rfl) h
            · replace h := if_f c65 h
              refine lv_iload hx hb dX4_cuts_68 (lv_at hl 6 rfl) ?_
              refine lv_istore (lv' := [(4, .int v5), (6, .int t0), (0, .ref (xAV X (0) 0)), (1, .int v1), (2, .int v2), (3, .int v3), (5, .int v5)]) hx hb dX4_cuts_70 hl (by decide) rfl (fun ls hl => ?_)
              refine lv_iinc (v := (v5 + (1 : Int32))) (lv' := [(5, .int (v5 + (1 : Int32))), (4, .int v5), (6, .int t0), (0, .ref (xAV X (0) 0)), (1, .int v1), (2, .int v2), (3, .int v3)]) hx hb dX4_cuts_72 hl (k := 6) rfl rfl (by decide) rfl (fun ls hl => ?_)
              refine lv_goto (tgt := 11) hx hb dX4_cuts_75 (by decide) ?_
              exact ih11 v1 v2 v3 v5 (v5 + (1 : Int32)) ls (lv_sub hl [3, 4, 5, 6, 1, 0] rfl) h
      refine lv_iload hx hb dX4_cuts_11 (lv_at hl 5 rfl) ?_
      refine lv_sipush (v := 128) hx hb dX4_cuts_13 (by decide) ?_
      refine lv_icmp_ge (tgt := 78) hx hb dX4_cuts_16 (by decide) (fun c16 => ?_) (fun c16 => ?_)
      · replace h := if_t c16 h
        refine lv_iload hx hb dX4_cuts_78 (lv_at hl 4 rfl) ?_
        cases h
        exact W.iret hx hb hr (fun t ht _ => ⟨rfl, ht⟩) (fun _ hq => by cases hq) dX4_cuts_80
      · replace h := if_f c16 h
        refine lv_iload hx hb dX4_cuts_19 (lv_at hl 5 rfl) ?_
        obtain ⟨r21, hc21, h⟩ := Option.bind_eq_some_iff.mp h
        refine rcS (As := [.int v5]) (rest := []) ⟨hx, hb, hml, hown, hts⟩ (c_J6_bitCount_0f7a4 l v5 hc21) ⟨w_532, w_357, w_63, w_358⟩ hd_J6_bitCount_0f7a4 rfl rfl ⟨(Nat.le_of_ble_eq_true rfl), (Nat.le_of_ble_eq_true rfl)⟩ ⟨Nat.zero_le _, Nat.zero_le _⟩ (fun _ _ _ _ h => h) (fun _ _ _ => trivial) rfl rfl hl.1 (Nat.le_of_ble_eq_true rfl) dX4_cuts_21 ?_
        refine lv_iload hx hb dX4_cuts_24 (lv_at hl 4 rfl) ?_
        obtain ⟨r26, hc26, h⟩ := Option.bind_eq_some_iff.mp h
        refine rcS (As := [.int v4]) (rest := [.int r21]) ⟨hx, hb, hml, hown, hts⟩ (c_J6_bitCount_0f7a4 l v4 hc26) ⟨w_532, w_357, w_63, w_358⟩ hd_J6_bitCount_0f7a4 rfl rfl ⟨(Nat.le_of_ble_eq_true rfl), (Nat.le_of_ble_eq_true rfl)⟩ ⟨Nat.zero_le _, Nat.zero_le _⟩ (fun _ _ _ _ h => h) (fun _ _ _ => trivial) rfl rfl hl.1 (Nat.le_of_ble_eq_true rfl) dX4_cuts_26 ?_
        refine lv_icmp_ge (tgt := 36) hx hb dX4_cuts_29 (by decide) (fun c29 => ?_) (fun c29 => ?_)
        · replace h := if_t c29 h
          refine lv_iconst (v := 0) hx hb dX4_cuts_36 (by decide) ?_
          exact hL37 v1 v2 v3 v4 v5 (0 : Int32) ls (lv_sub hl [0, 1, 2, 3, 4, 5] rfl) h
        · replace h := if_f c29 h
          refine lv_iconst (v := 1) hx hb dX4_cuts_32 (by decide) ?_
          refine lv_goto (tgt := 37) hx hb dX4_cuts_33 (by decide) ?_
          exact hL37 v1 v2 v3 v4 v5 (1 : Int32) ls (lv_sub hl [0, 1, 2, 3, 4, 5] rfl) h
  rw [X4_cuts] at h
  refine lv_aload_n hx hb dX4_cuts_0 rfl (lv_at hl 0 rfl) ?_
  obtain ⟨r1, hc1, h⟩ := Option.bind_eq_some_iff.mp h
  refine rcV (As := []) (rest := []) ⟨hx, hb, hml, hown, hts⟩ (c_X7_stuckSet l X gi gl ga vS vF sN sF hc1) ⟨w_548, w_391, w_392, w_53, w_393⟩ hd_X7_stuckSet rfl rfl ⟨(Nat.le_of_ble_eq_true rfl), (Nat.le_of_ble_eq_true rfl)⟩ ⟨Nat.zero_le _, Nat.zero_le _⟩ gPre_blind (va_recv hK hP (ci := 3) rfl (cG_v (by decide : 0 < 4))) (gPre_call hP hK hN hZ hS) rfl rfl hl.1 (Nat.le_of_ble_eq_true rfl) dX4_cuts_1 ?_
  refine lv_istore_n (lv' := [(3, .int r1), (0, .ref (xAV X (0) 0)), (1, .int a1), (2, .int a2)]) hx hb dX4_cuts_4 rfl hl (by decide) rfl (fun ls hl => ?_)
  refine lv_iload_n hx hb dX4_cuts_5 rfl (lv_at hl 0 rfl) ?_
  refine lv_istore (lv' := [(4, .int r1), (3, .int r1), (0, .ref (xAV X (0) 0)), (1, .int a1), (2, .int a2)]) hx hb dX4_cuts_6 hl (by decide) rfl (fun ls hl => ?_)
  refine lv_iconst (v := 0) hx hb dX4_cuts_8 (by decide) ?_
  refine lv_istore (lv' := [(5, .int (0 : Int32)), (4, .int r1), (3, .int r1), (0, .ref (xAV X (0) 0)), (1, .int a1), (2, .int a2)]) hx hb dX4_cuts_9 hl (by decide) rfl (fun ls hl => ?_)
  exact hL11 500 a1 a2 r1 r1 (0 : Int32) ls (lv_sub hl [3, 4, 5, 2, 1, 0] rfl) h
