set_option maxRecDepth 100000 in
set_option maxHeartbeats 4000000 in
theorem c_X8_train (l : Launch) (X : gX) (gi : Nat → Int32) (gl : Nat → Int64) (ga : Nat → Nat → Int32) (vS : Nat → Nat → Int32) (vF : Nat → Nat → Nat → Int32) (sN : Nat → Int32) (sF : Nat → Nat → Int32) (a1 : Int32) {o0 : Int32} {o_sN : Nat → Int32} {o_sF : Nat → Nat → Int32} (h : X8_train vS vF a1 sN sF = some (o0, o_sN, o_sF)) : Met l yX8_train (Cond.code yX8_train cX8_train 2 (some .int) :: gT) { frames := 12, cells := 0, slots := 0, locals := 294 } (va_Pc [.ref (xA X 0), .int a1] (gPre X gi gl ga vS vF sN sF)) (wQ (some (.int o0)) (fun H => va_P X.1 vwCl (cG X gi gl ga vS vF o_sN o_sF) H) (gA X)) 0 0 (gA X) := by
  refine Met.ofW (cc := cX8_train) (maxL := 2) (ret := (some .int)) (by decide) rfl ?_
  intro p e s m args below meth c s₁ B hml hv
  obtain ⟨rfl, hP, hK, hN, hZ⟩ := hv
  have hx := B.exec
  have hb := B.bytes
  have hr := B.returns
  have hts := atoms_spec (ws := (Cond.code yX8_train cX8_train 2 (some .int) :: gT)) B.pre
  have hT : ∀ w ∈ gT, w.before _ s = true := fun w hw => hts w (List.mem_cons_of_mem _ hw)
  have hown : s.vm.findClass RX8 = some m.cls := findClass_of_methodNamed B.named
  have hlocks := B.notSynchronized
  have hS : va_S (gA X) s.heap s.heap [] := va_S.rf
  have hl := lv_entry ([.ref (xA X 0), .int a1]) (n := 2) (Nat.le_of_ble_eq_true rfl)
  rw [lg_entry_eq]
  generalize (lg_sl ([.ref (xA X 0), .int a1]) ++ List.replicate (2 - (lg_sl ([.ref (xA X 0), .int a1])).length) Slot.unset).toArray = ls at hl ⊢
  have hl : lv_has ls 2 [(0, .ref (xA X 0)), (1, .int a1)] := hl
  rw [X8_train] at h
  refine lv_iload_n hx hb dX8_train_0 rfl (lv_at hl 1 rfl) ?_
  obtain ⟨r1, hc1, h⟩ := Option.bind_eq_some_iff.mp h
  refine rcS (As := [.int a1]) (rest := []) ⟨hx, hb, hml, hown, hts⟩ (c_X8_isRow l a1 hc1) ⟨w_224, w_225, w_52, w_226⟩ hd_X8_isRow rfl rfl ⟨(Nat.le_of_ble_eq_true rfl), (Nat.le_of_ble_eq_true rfl)⟩ ⟨Nat.zero_le _, Nat.zero_le _⟩ (fun _ _ _ _ h => h) (fun _ _ _ => trivial) rfl rfl hl.1 (Nat.le_of_ble_eq_true rfl) dX8_train_1 ?_
  refine lv_if_ne (tgt := 9) hx hb dX8_train_4 (by decide) (fun c4 => ?_) (fun c4 => ?_)
  · replace h := if_f c4 h
    refine lv_aload_n hx hb dX8_train_9 rfl (lv_at hl 0 rfl) ?_
    refine rg_G_rows hx hb hT hown hK hP w_186 dX8_train_10 ?_
    refine lv_iload_n hx hb dX8_train_13 rfl (lv_at hl 1 rfl) ?_
    obtain ⟨hi14, h⟩ := gd_e h
    refine rr_rows hx hb hK hP (ib_in hi14) dX8_train_14 ?_
    refine lv_iconst (v := 0) hx hb dX8_train_15 (by decide) ?_
    refine lv_iconst (v := 0) hx hb dX8_train_16 (by decide) ?_
    obtain ⟨sN_17, sF_17, hc17, h⟩ := bd2_e h
    refine wcV (As := [.int (0 : Int32), .int (0 : Int32)]) (rest := []) ⟨hx, hb, hml, hown, hts⟩ (c_X6_layOut l X gi gl ga vS vF sN sF a1.toNatClampNeg (gj6 (ib_in hi14)) (0 : Int32) (0 : Int32) hc17) ⟨w_231, w_232, w_233, w_56, w_234⟩ hd_X6_layOut rfl rfl ⟨(Nat.le_of_ble_eq_true rfl), (Nat.le_of_ble_eq_true rfl)⟩ ⟨Nat.zero_le _, Nat.zero_le _⟩ gPre_blind (va_recv hK hP (ci := 2) rfl (cG_s (gj6 (ib_in hi14)))) (gPre_call hP hK hN hZ hS) hS (fun _ h => h) rfl rfl hl.1 (Nat.le_of_ble_eq_true rfl) dX8_train_17 (fun H locs hP _ hS => ?_)
    have hP : va_P X.1 vwCl (cG X gi gl ga vS vF sN_17 sF_17) H := hP
    refine W.eq (g2 := F0 m 20 ls []) rfl ?_
    refine lv_aload_n hx hb dX8_train_20 rfl (lv_at hl 0 rfl) ?_
    refine rg_G_village hx hb hT hown hK hP w_188 dX8_train_21 ?_
    refine lv_aload_n hx hb dX8_train_24 rfl (lv_at hl 0 rfl) ?_
    refine rg_G_rows hx hb hT hown hK hP w_186 dX8_train_25 ?_
    refine lv_iload_n hx hb dX8_train_28 rfl (lv_at hl 1 rfl) ?_
    obtain ⟨hi29, h⟩ := gd_e h
    refine rr_rows hx hb hK hP (ib_in hi29) dX8_train_29 ?_
    refine lv_bipush (v := 9) hx hb dX8_train_30 (by decide) ?_
    refine lv_iconst (v := 0) hx hb dX8_train_32 (by decide) ?_
    obtain ⟨sN_33, sF_33, hc33, h⟩ := bd2_e h
    refine wcS (As := [.ref (xAV X (0) 0), .ref (xAS X a1.toNatClampNeg 0), .int (9 : Int32), .int (0 : Int32)]) (rest := []) ⟨hx, hb, hml, hown, hts⟩ (c_X8_addHangers l X gi gl ga vS vF a1.toNatClampNeg (gj6 (ib_in hi29)) 9 sN_17 sF_17 (9 : Int32) (0 : Int32) _ _ hc33) ⟨w_499, w_500, w_52, w_501⟩ hd_X8_addHangers rfl rfl ⟨(Nat.le_of_ble_eq_true rfl), (Nat.le_of_ble_eq_true rfl)⟩ ⟨Nat.zero_le _, Nat.zero_le _⟩ gPre_blind (gPre_call hP hK hN hZ hS) hS (fun _ h => h) rfl rfl hl.1 (Nat.le_of_ble_eq_true rfl) dX8_train_33 (fun H locs hP _ hS => ?_)
    have hP : va_P X.1 vwCl (cG X gi gl ga vS vF sN_33 sF_33) H := hP
    refine W.eq (g2 := F0 m 36 ls []) rfl ?_
    refine lv_aload_n hx hb dX8_train_36 rfl (lv_at hl 0 rfl) ?_
    refine rg_G_rows hx hb hT hown hK hP w_186 dX8_train_37 ?_
    refine lv_iload_n hx hb dX8_train_40 rfl (lv_at hl 1 rfl) ?_
    obtain ⟨hi41, h⟩ := gd_e h
    refine rr_rows hx hb hK hP (ib_in hi41) dX8_train_41 ?_
    refine rg_S_size (j := a1.toNatClampNeg) hx hb hT hown hK hP (gj6 (ib_in hi41)) w_180 dX8_train_42 ?_
    cases h
    exact W.iret hx hb hr (fun t ht _ => ⟨rfl, by rw [ht]; exact hP, hS.F ht⟩) hS.2.2 dX8_train_45
  · replace h := if_t c4 h
    refine lv_iconst (v := -1) hx hb dX8_train_7 (by decide) ?_
    cases h
    exact W.iret hx hb hr (fun t ht _ => ⟨rfl, by rw [ht]; exact hP, hS.F ht⟩) hS.2.2 dX8_train_8
set_option maxRecDepth 100000 in
set_option maxHeartbeats 4000000 in
theorem c_X8_row (l : Launch) (X : gX) (gi : Nat → Int32) (gl : Nat → Int64) (ga : Nat → Nat → Int32) (vS : Nat → Nat → Int32) (vF : Nat → Nat → Nat → Int32) (sN : Nat → Int32) (sF : Nat → Nat → Int32) (a1 : Int32) (a2 : Int32) {o0 : Int32} {o_gi : Nat → Int32} {o_ga : Nat → Nat → Int32} {o_sN : Nat → Int32} {o_sF : Nat → Nat → Int32} (h : X8_row a1 a2 gi ga sN sF = some (o0, o_gi, o_ga, o_sN, o_sF)) : Met l yX8_row (Cond.code yX8_row cX8_row 3 (some .int) :: gT) { frames := 2, cells := 0, slots := 0, locals := 45 } (va_Pc [.ref (xA X 0), .int a1, .int a2] (gPre X gi gl ga vS vF sN sF)) (wQ (some (.int o0)) (fun H => va_P X.1 vwCl (cG X o_gi gl o_ga vS vF o_sN o_sF) H) (gA X)) 0 0 (gA X) := by
  refine Met.ofW (cc := cX8_row) (maxL := 3) (ret := (some .int)) (by decide) rfl ?_
  intro p e s m args below meth c s₁ B hml hv
  obtain ⟨rfl, hP, hK, hN, hZ⟩ := hv
  have hx := B.exec
  have hb := B.bytes
  have hr := B.returns
  have hts := atoms_spec (ws := (Cond.code yX8_row cX8_row 3 (some .int) :: gT)) B.pre
  have hT : ∀ w ∈ gT, w.before _ s = true := fun w hw => hts w (List.mem_cons_of_mem _ hw)
  have hown : s.vm.findClass RX8 = some m.cls := findClass_of_methodNamed B.named
  have hlocks := B.notSynchronized
  have hS : va_S (gA X) s.heap s.heap [] := va_S.rf
  have hl := lv_entry ([.ref (xA X 0), .int a1, .int a2]) (n := 3) (Nat.le_of_ble_eq_true rfl)
  rw [lg_entry_eq]
  generalize (lg_sl ([.ref (xA X 0), .int a1, .int a2]) ++ List.replicate (3 - (lg_sl ([.ref (xA X 0), .int a1, .int a2])).length) Slot.unset).toArray = ls at hl ⊢
  have hl : lv_has ls 3 [(0, .ref (xA X 0)), (1, .int a1), (2, .int a2)] := hl
  rw [X8_row] at h
  refine lv_iload_n hx hb dX8_row_0 rfl (lv_at hl 1 rfl) ?_
  obtain ⟨r1, hc1, h⟩ := Option.bind_eq_some_iff.mp h
  refine rcS (As := [.int a1]) (rest := []) ⟨hx, hb, hml, hown, hts⟩ (c_X8_isRow l a1 hc1) ⟨w_224, w_225, w_52, w_226⟩ hd_X8_isRow rfl rfl ⟨(Nat.le_of_ble_eq_true rfl), (Nat.le_of_ble_eq_true rfl)⟩ ⟨Nat.zero_le _, Nat.zero_le _⟩ (fun _ _ _ _ h => h) (fun _ _ _ => trivial) rfl rfl hl.1 (Nat.le_of_ble_eq_true rfl) dX8_row_1 ?_
  refine lv_if_eq (tgt := 13) hx hb dX8_row_4 (by decide) (fun c4 => ?_) (fun c4 => ?_)
  · replace h := if_t c4 h
    refine lv_iconst (v := -1) hx hb dX8_row_13 (by decide) ?_
    cases h
    exact W.iret hx hb hr (fun t ht _ => ⟨rfl, by rw [ht]; exact hP, hS.F ht⟩) hS.2.2 dX8_row_14
  · replace h := if_f c4 h
    refine lv_iload_n hx hb dX8_row_7 rfl (lv_at hl 2 rfl) ?_
    refine lv_bipush (v := 40) hx hb dX8_row_8 (by decide) ?_
    refine lv_icmp_le (tgt := 15) hx hb dX8_row_10 (by decide) (fun c10 => ?_) (fun c10 => ?_)
    · replace h := if_t c10 h
      refine lv_iload_n hx hb dX8_row_15 rfl (lv_at hl 2 rfl) ?_
      refine lv_if_ge (tgt := 25) hx hb dX8_row_16 (by decide) (fun c16 => ?_) (fun c16 => ?_)
      · replace h := if_t c16 h
        refine lv_aload_n hx hb dX8_row_25 rfl (lv_at hl 0 rfl) ?_
        refine rg_G_rows hx hb hT hown hK hP w_186 dX8_row_26 ?_
        refine lv_iload_n hx hb dX8_row_29 rfl (lv_at hl 1 rfl) ?_
        obtain ⟨hi30, h⟩ := gd_e h
        refine rr_rows hx hb hK hP (ib_in hi30) dX8_row_30 ?_
        refine lv_iload_n hx hb dX8_row_31 rfl (lv_at hl 2 rfl) ?_
        refine lv_iconst (v := 0) hx hb dX8_row_32 (by decide) ?_
        obtain ⟨sN_33, sF_33, hc33, h⟩ := bd2_e h
        refine wcV (As := [.int a2, .int (0 : Int32)]) (rest := []) ⟨hx, hb, hml, hown, hts⟩ (c_X6_layOut l X gi gl ga vS vF sN sF a1.toNatClampNeg (gj6 (ib_in hi30)) a2 (0 : Int32) hc33) ⟨w_231, w_232, w_233, w_56, w_234⟩ hd_X6_layOut rfl rfl ⟨(Nat.le_of_ble_eq_true rfl), (Nat.le_of_ble_eq_true rfl)⟩ ⟨Nat.zero_le _, Nat.zero_le _⟩ gPre_blind (va_recv hK hP (ci := 2) rfl (cG_s (gj6 (ib_in hi30)))) (gPre_call hP hK hN hZ hS) hS (fun _ h => h) rfl rfl hl.1 (Nat.le_of_ble_eq_true rfl) dX8_row_33 (fun H locs hP _ hS => ?_)
        have hP : va_P X.1 vwCl (cG X gi gl ga vS vF sN_33 sF_33) H := hP
        refine W.eq (g2 := F0 m 36 ls []) rfl ?_
        refine lv_iload_n hx hb dX8_row_36 rfl (lv_at hl 2 rfl) ?_
        cases h
        exact W.iret hx hb hr (fun t ht _ => ⟨rfl, by rw [ht]; exact hP, hS.F ht⟩) hS.2.2 dX8_row_37
      · replace h := if_f c16 h
        refine lv_aload_n hx hb dX8_row_19 rfl (lv_at hl 0 rfl) ?_
        refine lv_iconst (v := 5) hx hb dX8_row_20 (by decide) ?_
        obtain ⟨r21, gi_21, ga_21, hc21, h⟩ := bd3_e h
        refine wcV (As := [.int (5 : Int32)]) (rest := []) ⟨hx, hb, hml, hown, hts⟩ (c_X8_found l X gi gl ga vS vF sN sF (5 : Int32) hc21) ⟨w_227, w_229, w_0, w_52, w_230⟩ hd_X8_found rfl rfl ⟨(Nat.le_of_ble_eq_true rfl), (Nat.le_of_ble_eq_true rfl)⟩ ⟨Nat.zero_le _, Nat.zero_le _⟩ gPre_blind (va_recv hK hP (ci := 4) rfl cG_b0) (gPre_call hP hK hN hZ hS) hS (fun _ h => h) rfl rfl hl.1 (Nat.le_of_ble_eq_true rfl) dX8_row_21 (fun H locs hP _ hS => ?_)
        have hP : va_P X.1 vwCl (cG X gi_21 gl ga_21 vS vF sN sF) H := hP
        refine W.eq (g2 := F0 m 24 ls [.int r21]) rfl ?_
        cases h
        exact W.iret hx hb hr (fun t ht _ => ⟨rfl, by rw [ht]; exact hP, hS.F ht⟩) hS.2.2 dX8_row_24
    · replace h := if_f c10 h
      refine lv_iconst (v := -1) hx hb dX8_row_13 (by decide) ?_
      cases h
      exact W.iret hx hb hr (fun t ht _ => ⟨rfl, by rw [ht]; exact hP, hS.F ht⟩) hS.2.2 dX8_row_14
set_option maxRecDepth 100000 in
set_option maxHeartbeats 4000000 in
theorem c_X8_lay (l : Launch) (X : gX) (gi : Nat → Int32) (gl : Nat → Int64) (ga : Nat → Nat → Int32) (vS : Nat → Nat → Int32) (vF : Nat → Nat → Nat → Int32) (sN : Nat → Int32) (sF : Nat → Nat → Int32) (a1 : Int32) (a2 : Int32) (a3 : Int32) {o0 : Int32} {o_gi : Nat → Int32} {o_ga : Nat → Nat → Int32} {o_sF : Nat → Nat → Int32} (h : X8_lay sN a1 a2 a3 gi ga sF = some (o0, o_gi, o_ga, o_sF)) : Met l yX8_lay (Cond.code yX8_lay cX8_lay 4 (some .int) :: gT) { frames := 1, cells := 0, slots := 0, locals := 21 } (va_Pc [.ref (xA X 0), .int a1, .int a2, .int a3] (gPre X gi gl ga vS vF sN sF)) (wQ (some (.int o0)) (fun H => va_P X.1 vwCl (cG X o_gi gl o_ga vS vF sN o_sF) H) (gA X)) 0 0 (gA X) := by
  refine Met.ofW (cc := cX8_lay) (maxL := 4) (ret := (some .int)) (by decide) rfl ?_
  intro p e s m args below meth c s₁ B hml hv
  obtain ⟨rfl, hP, hK, hN, hZ⟩ := hv
  have hx := B.exec
  have hb := B.bytes
  have hr := B.returns
  have hts := atoms_spec (ws := (Cond.code yX8_lay cX8_lay 4 (some .int) :: gT)) B.pre
  have hT : ∀ w ∈ gT, w.before _ s = true := fun w hw => hts w (List.mem_cons_of_mem _ hw)
  have hown : s.vm.findClass RX8 = some m.cls := findClass_of_methodNamed B.named
  have hlocks := B.notSynchronized
  have hS : va_S (gA X) s.heap s.heap [] := va_S.rf
  have hl := lv_entry ([.ref (xA X 0), .int a1, .int a2, .int a3]) (n := 4) (Nat.le_of_ble_eq_true rfl)
  rw [lg_entry_eq]
  generalize (lg_sl ([.ref (xA X 0), .int a1, .int a2, .int a3]) ++ List.replicate (4 - (lg_sl ([.ref (xA X 0), .int a1, .int a2, .int a3])).length) Slot.unset).toArray = ls at hl ⊢
  have hl : lv_has ls 4 [(0, .ref (xA X 0)), (1, .int a1), (2, .int a2), (3, .int a3)] := hl
  rw [X8_lay] at h
  refine lv_iload_n hx hb dX8_lay_0 rfl (lv_at hl 1 rfl) ?_
  obtain ⟨r1, hc1, h⟩ := Option.bind_eq_some_iff.mp h
  refine rcS (As := [.int a1]) (rest := []) ⟨hx, hb, hml, hown, hts⟩ (c_X8_isRow l a1 hc1) ⟨w_224, w_225, w_52, w_226⟩ hd_X8_isRow rfl rfl ⟨(Nat.le_of_ble_eq_true rfl), (Nat.le_of_ble_eq_true rfl)⟩ ⟨Nat.zero_le _, Nat.zero_le _⟩ (fun _ _ _ _ h => h) (fun _ _ _ => trivial) rfl rfl hl.1 (Nat.le_of_ble_eq_true rfl) dX8_lay_1 ?_
  refine lv_if_ne (tgt := 9) hx hb dX8_lay_4 (by decide) (fun c4 => ?_) (fun c4 => ?_)
  · replace h := if_f c4 h
    refine lv_aload_n hx hb dX8_lay_9 rfl (lv_at hl 0 rfl) ?_
    refine rg_G_rows hx hb hT hown hK hP w_186 dX8_lay_10 ?_
    refine lv_iload_n hx hb dX8_lay_13 rfl (lv_at hl 1 rfl) ?_
    obtain ⟨hi14, h⟩ := gd_e h
    refine rr_rows hx hb hK hP (ib_in hi14) dX8_lay_14 ?_
    obtain ⟨r15, hc15, h⟩ := Option.bind_eq_some_iff.mp h
    refine rcV (As := []) (rest := []) ⟨hx, hb, hml, hown, hts⟩ (c_X6_isMissing l X gi gl ga vS vF sN sF a1.toNatClampNeg (gj6 (ib_in hi14)) hc15) ⟨w_242, w_243, w_244, w_56, w_245⟩ hd_X6_isMissing rfl rfl ⟨(Nat.le_of_ble_eq_true rfl), (Nat.le_of_ble_eq_true rfl)⟩ ⟨Nat.zero_le _, Nat.zero_le _⟩ gPre_blind (va_recv hK hP (ci := 2) rfl (cG_s (gj6 (ib_in hi14)))) (gPre_call hP hK hN hZ hS) rfl rfl hl.1 (Nat.le_of_ble_eq_true rfl) dX8_lay_15 ?_
    refine lv_if_eq (tgt := 27) hx hb dX8_lay_18 (by decide) (fun c18 => ?_) (fun c18 => ?_)
    · replace h := if_t c18 h
      refine lv_aload_n hx hb dX8_lay_27 rfl (lv_at hl 0 rfl) ?_
      refine rg_G_rows hx hb hT hown hK hP w_186 dX8_lay_28 ?_
      refine lv_iload_n hx hb dX8_lay_31 rfl (lv_at hl 1 rfl) ?_
      obtain ⟨hi32, h⟩ := gd_e h
      refine rr_rows hx hb hK hP (ib_in hi32) dX8_lay_32 ?_
      refine lv_iload_n hx hb dX8_lay_33 rfl (lv_at hl 2 rfl) ?_
      obtain ⟨r34, hc34, h⟩ := Option.bind_eq_some_iff.mp h
      refine rcV (As := [.int a2]) (rest := []) ⟨hx, hb, hml, hown, hts⟩ (c_X6_has l X gi gl ga vS vF sN sF a1.toNatClampNeg (gj6 (ib_in hi32)) a2 hc34) ⟨w_246, w_247, w_248, w_56, w_249⟩ hd_X6_has rfl rfl ⟨(Nat.le_of_ble_eq_true rfl), (Nat.le_of_ble_eq_true rfl)⟩ ⟨Nat.zero_le _, Nat.zero_le _⟩ gPre_blind (va_recv hK hP (ci := 2) rfl (cG_s (gj6 (ib_in hi32)))) (gPre_call hP hK hN hZ hS) rfl rfl hl.1 (Nat.le_of_ble_eq_true rfl) dX8_lay_34 ?_
      refine lv_if_ne (tgt := 46) hx hb dX8_lay_37 (by decide) (fun c37 => ?_) (fun c37 => ?_)
      · replace h := if_f c37 h
        refine lv_aload_n hx hb dX8_lay_46 rfl (lv_at hl 0 rfl) ?_
        refine lv_aload_n hx hb dX8_lay_47 rfl (lv_at hl 0 rfl) ?_
        refine rg_G_rows hx hb hT hown hK hP w_186 dX8_lay_48 ?_
        refine lv_iload_n hx hb dX8_lay_51 rfl (lv_at hl 1 rfl) ?_
        obtain ⟨hi52, h⟩ := gd_e h
        refine rr_rows hx hb hK hP (ib_in hi52) dX8_lay_52 ?_
        refine rg_S_cells (j := a1.toNatClampNeg) hx hb hT hown hK hP (gj6 (ib_in hi52)) w_177 dX8_lay_53 ?_
        refine lv_iload_n hx hb dX8_lay_56 rfl (lv_at hl 2 rfl) ?_
        obtain ⟨hi57, h⟩ := gd_e h
        refine ra_s (j := a1.toNatClampNeg) hx hb hK hP (gj6 (ib_in hi52)) (ib_in hi57) dX8_lay_57 ?_
        refine rp_G_told hx hb hT hown hK hP hN hS w_194 dX8_lay_58 (fun H locs hP hS => ?_)
        generalize egi_58 : va_up gi 1 (sF a1.toNatClampNeg a2.toNatClampNeg) = gi_58 at hP
        replace h := lt_g h egi_58
        refine lv_aload_n hx hb dX8_lay_61 rfl (lv_at hl 0 rfl) ?_
        refine rg_G_rows hx hb hT hown hK hP w_186 dX8_lay_62 ?_
        refine lv_iload_n hx hb dX8_lay_65 rfl (lv_at hl 1 rfl) ?_
        obtain ⟨hi66, h⟩ := gd_e h
        refine rr_rows hx hb hK hP (ib_in hi66) dX8_lay_66 ?_
        refine rg_S_cells (j := a1.toNatClampNeg) hx hb hT hown hK hP (gj6 (ib_in hi66)) w_177 dX8_lay_67 ?_
        refine lv_iload_n hx hb dX8_lay_70 rfl (lv_at hl 2 rfl) ?_
        refine lv_iload_n hx hb dX8_lay_71 rfl (lv_at hl 3 rfl) ?_
        obtain ⟨hi72, h⟩ := gd_e h
        refine rs_s (j := a1.toNatClampNeg) hx hb hK hP hN hS (gj6 (ib_in hi66)) (ib_in hi72) dX8_lay_72 (fun H locs hP hS => ?_)
        generalize esF_72 : va_up sF a1.toNatClampNeg (upd (sF a1.toNatClampNeg) a2.toNatClampNeg a3) = sF_72 at hP
        replace h := lt_g h esF_72
        refine lv_iconst (v := 1) hx hb dX8_lay_73 (by decide) ?_
        cases h
        exact W.iret hx hb hr (fun t ht _ => ⟨rfl, by rw [ht]; exact hP, hS.F ht⟩) hS.2.2 dX8_lay_74
      · replace h := if_t c37 h
        refine lv_aload_n hx hb dX8_lay_40 rfl (lv_at hl 0 rfl) ?_
        refine lv_iconst (v := 2) hx hb dX8_lay_41 (by decide) ?_
        obtain ⟨r42, gi_42, ga_42, hc42, h⟩ := bd3_e h
        refine wcV (As := [.int (2 : Int32)]) (rest := []) ⟨hx, hb, hml, hown, hts⟩ (c_X8_found l X gi gl ga vS vF sN sF (2 : Int32) hc42) ⟨w_227, w_229, w_0, w_52, w_230⟩ hd_X8_found rfl rfl ⟨(Nat.le_of_ble_eq_true rfl), (Nat.le_of_ble_eq_true rfl)⟩ ⟨Nat.zero_le _, Nat.zero_le _⟩ gPre_blind (va_recv hK hP (ci := 4) rfl cG_b0) (gPre_call hP hK hN hZ hS) hS (fun _ h => h) rfl rfl hl.1 (Nat.le_of_ble_eq_true rfl) dX8_lay_42 (fun H locs hP _ hS => ?_)
        have hP : va_P X.1 vwCl (cG X gi_42 gl ga_42 vS vF sN sF) H := hP
        refine W.eq (g2 := F0 m 45 ls [.int r42]) rfl ?_
        cases h
        exact W.iret hx hb hr (fun t ht _ => ⟨rfl, by rw [ht]; exact hP, hS.F ht⟩) hS.2.2 dX8_lay_45
    · replace h := if_f c18 h
      refine lv_aload_n hx hb dX8_lay_21 rfl (lv_at hl 0 rfl) ?_
      refine lv_iconst (v := 1) hx hb dX8_lay_22 (by decide) ?_
      obtain ⟨r23, gi_23, ga_23, hc23, h⟩ := bd3_e h
      refine wcV (As := [.int (1 : Int32)]) (rest := []) ⟨hx, hb, hml, hown, hts⟩ (c_X8_found l X gi gl ga vS vF sN sF (1 : Int32) hc23) ⟨w_227, w_229, w_0, w_52, w_230⟩ hd_X8_found rfl rfl ⟨(Nat.le_of_ble_eq_true rfl), (Nat.le_of_ble_eq_true rfl)⟩ ⟨Nat.zero_le _, Nat.zero_le _⟩ gPre_blind (va_recv hK hP (ci := 4) rfl cG_b0) (gPre_call hP hK hN hZ hS) hS (fun _ h => h) rfl rfl hl.1 (Nat.le_of_ble_eq_true rfl) dX8_lay_23 (fun H locs hP _ hS => ?_)
      have hP : va_P X.1 vwCl (cG X gi_23 gl ga_23 vS vF sN sF) H := hP
      refine W.eq (g2 := F0 m 26 ls [.int r23]) rfl ?_
      cases h
      exact W.iret hx hb hr (fun t ht _ => ⟨rfl, by rw [ht]; exact hP, hS.F ht⟩) hS.2.2 dX8_lay_26
  · replace h := if_t c4 h
    refine lv_iconst (v := -1) hx hb dX8_lay_7 (by decide) ?_
    cases h
    exact W.iret hx hb hr (fun t ht _ => ⟨rfl, by rw [ht]; exact hP, hS.F ht⟩) hS.2.2 dX8_lay_8
set_option maxRecDepth 100000 in
set_option maxHeartbeats 4000000 in
theorem c_X8_at (l : Launch) (X : gX) (gi : Nat → Int32) (gl : Nat → Int64) (ga : Nat → Nat → Int32) (vS : Nat → Nat → Int32) (vF : Nat → Nat → Nat → Int32) (sN : Nat → Int32) (sF : Nat → Nat → Int32) (a1 : Int32) (a2 : Int32) {o0 : Int32} {o_gi : Nat → Int32} {o_ga : Nat → Nat → Int32} (h : X8_at sN sF a1 a2 gi ga = some (o0, o_gi, o_ga)) : Met l yX8_at (Cond.code yX8_at cX8_at 3 (some .int) :: gT) { frames := 1, cells := 0, slots := 0, locals := 21 } (va_Pc [.ref (xA X 0), .int a1, .int a2] (gPre X gi gl ga vS vF sN sF)) (wQ (some (.int o0)) (fun H => va_P X.1 vwCl (cG X o_gi gl o_ga vS vF sN sF) H) (gA X)) 0 0 (gA X) := by
  refine Met.ofW (cc := cX8_at) (maxL := 3) (ret := (some .int)) (by decide) rfl ?_
  intro p e s m args below meth c s₁ B hml hv
  obtain ⟨rfl, hP, hK, hN, hZ⟩ := hv
  have hx := B.exec
  have hb := B.bytes
  have hr := B.returns
  have hts := atoms_spec (ws := (Cond.code yX8_at cX8_at 3 (some .int) :: gT)) B.pre
  have hT : ∀ w ∈ gT, w.before _ s = true := fun w hw => hts w (List.mem_cons_of_mem _ hw)
  have hown : s.vm.findClass RX8 = some m.cls := findClass_of_methodNamed B.named
  have hlocks := B.notSynchronized
  have hS : va_S (gA X) s.heap s.heap [] := va_S.rf
  have hl := lv_entry ([.ref (xA X 0), .int a1, .int a2]) (n := 3) (Nat.le_of_ble_eq_true rfl)
  rw [lg_entry_eq]
  generalize (lg_sl ([.ref (xA X 0), .int a1, .int a2]) ++ List.replicate (3 - (lg_sl ([.ref (xA X 0), .int a1, .int a2])).length) Slot.unset).toArray = ls at hl ⊢
  have hl : lv_has ls 3 [(0, .ref (xA X 0)), (1, .int a1), (2, .int a2)] := hl
  rw [X8_at] at h
  refine lv_iload_n hx hb dX8_at_0 rfl (lv_at hl 1 rfl) ?_
  obtain ⟨r1, hc1, h⟩ := Option.bind_eq_some_iff.mp h
  refine rcS (As := [.int a1]) (rest := []) ⟨hx, hb, hml, hown, hts⟩ (c_X8_isRow l a1 hc1) ⟨w_224, w_225, w_52, w_226⟩ hd_X8_isRow rfl rfl ⟨(Nat.le_of_ble_eq_true rfl), (Nat.le_of_ble_eq_true rfl)⟩ ⟨Nat.zero_le _, Nat.zero_le _⟩ (fun _ _ _ _ h => h) (fun _ _ _ => trivial) rfl rfl hl.1 (Nat.le_of_ble_eq_true rfl) dX8_at_1 ?_
  refine lv_if_ne (tgt := 9) hx hb dX8_at_4 (by decide) (fun c4 => ?_) (fun c4 => ?_)
  · replace h := if_f c4 h
    refine lv_aload_n hx hb dX8_at_9 rfl (lv_at hl 0 rfl) ?_
    refine rg_G_rows hx hb hT hown hK hP w_186 dX8_at_10 ?_
    refine lv_iload_n hx hb dX8_at_13 rfl (lv_at hl 1 rfl) ?_
    obtain ⟨hi14, h⟩ := gd_e h
    refine rr_rows hx hb hK hP (ib_in hi14) dX8_at_14 ?_
    obtain ⟨r15, hc15, h⟩ := Option.bind_eq_some_iff.mp h
    refine rcV (As := []) (rest := []) ⟨hx, hb, hml, hown, hts⟩ (c_X6_isMissing l X gi gl ga vS vF sN sF a1.toNatClampNeg (gj6 (ib_in hi14)) hc15) ⟨w_242, w_243, w_244, w_56, w_245⟩ hd_X6_isMissing rfl rfl ⟨(Nat.le_of_ble_eq_true rfl), (Nat.le_of_ble_eq_true rfl)⟩ ⟨Nat.zero_le _, Nat.zero_le _⟩ gPre_blind (va_recv hK hP (ci := 2) rfl (cG_s (gj6 (ib_in hi14)))) (gPre_call hP hK hN hZ hS) rfl rfl hl.1 (Nat.le_of_ble_eq_true rfl) dX8_at_15 ?_
    refine lv_if_eq (tgt := 27) hx hb dX8_at_18 (by decide) (fun c18 => ?_) (fun c18 => ?_)
    · replace h := if_t c18 h
      refine lv_aload_n hx hb dX8_at_27 rfl (lv_at hl 0 rfl) ?_
      refine rg_G_rows hx hb hT hown hK hP w_186 dX8_at_28 ?_
      refine lv_iload_n hx hb dX8_at_31 rfl (lv_at hl 1 rfl) ?_
      obtain ⟨hi32, h⟩ := gd_e h
      refine rr_rows hx hb hK hP (ib_in hi32) dX8_at_32 ?_
      refine lv_iload_n hx hb dX8_at_33 rfl (lv_at hl 2 rfl) ?_
      obtain ⟨r34, hc34, h⟩ := Option.bind_eq_some_iff.mp h
      refine rcV (As := [.int a2]) (rest := []) ⟨hx, hb, hml, hown, hts⟩ (c_X6_has l X gi gl ga vS vF sN sF a1.toNatClampNeg (gj6 (ib_in hi32)) a2 hc34) ⟨w_246, w_247, w_248, w_56, w_249⟩ hd_X6_has rfl rfl ⟨(Nat.le_of_ble_eq_true rfl), (Nat.le_of_ble_eq_true rfl)⟩ ⟨Nat.zero_le _, Nat.zero_le _⟩ gPre_blind (va_recv hK hP (ci := 2) rfl (cG_s (gj6 (ib_in hi32)))) (gPre_call hP hK hN hZ hS) rfl rfl hl.1 (Nat.le_of_ble_eq_true rfl) dX8_at_34 ?_
      refine lv_if_ne (tgt := 46) hx hb dX8_at_37 (by decide) (fun c37 => ?_) (fun c37 => ?_)
      · replace h := if_f c37 h
        refine lv_aload_n hx hb dX8_at_46 rfl (lv_at hl 0 rfl) ?_
        refine lv_aload_n hx hb dX8_at_47 rfl (lv_at hl 0 rfl) ?_
        refine rg_G_rows hx hb hT hown hK hP w_186 dX8_at_48 ?_
        refine lv_iload_n hx hb dX8_at_51 rfl (lv_at hl 1 rfl) ?_
        obtain ⟨hi52, h⟩ := gd_e h
        refine rr_rows hx hb hK hP (ib_in hi52) dX8_at_52 ?_
        refine rg_S_cells (j := a1.toNatClampNeg) hx hb hT hown hK hP (gj6 (ib_in hi52)) w_177 dX8_at_53 ?_
        refine lv_iload_n hx hb dX8_at_56 rfl (lv_at hl 2 rfl) ?_
        obtain ⟨hi57, h⟩ := gd_e h
        refine ra_s (j := a1.toNatClampNeg) hx hb hK hP (gj6 (ib_in hi52)) (ib_in hi57) dX8_at_57 ?_
        refine rp_G_told hx hb hT hown hK hP hN hS w_194 dX8_at_58 (fun H locs hP hS => ?_)
        generalize egi_58 : va_up gi 1 (sF a1.toNatClampNeg a2.toNatClampNeg) = gi_58 at hP
        replace h := lt_g h egi_58
        refine lv_iconst (v := 1) hx hb dX8_at_61 (by decide) ?_
        cases h
        exact W.iret hx hb hr (fun t ht _ => ⟨rfl, by rw [ht]; exact hP, hS.F ht⟩) hS.2.2 dX8_at_62
      · replace h := if_t c37 h
        refine lv_aload_n hx hb dX8_at_40 rfl (lv_at hl 0 rfl) ?_
        refine lv_iconst (v := 2) hx hb dX8_at_41 (by decide) ?_
        obtain ⟨r42, gi_42, ga_42, hc42, h⟩ := bd3_e h
        refine wcV (As := [.int (2 : Int32)]) (rest := []) ⟨hx, hb, hml, hown, hts⟩ (c_X8_found l X gi gl ga vS vF sN sF (2 : Int32) hc42) ⟨w_227, w_229, w_0, w_52, w_230⟩ hd_X8_found rfl rfl ⟨(Nat.le_of_ble_eq_true rfl), (Nat.le_of_ble_eq_true rfl)⟩ ⟨Nat.zero_le _, Nat.zero_le _⟩ gPre_blind (va_recv hK hP (ci := 4) rfl cG_b0) (gPre_call hP hK hN hZ hS) hS (fun _ h => h) rfl rfl hl.1 (Nat.le_of_ble_eq_true rfl) dX8_at_42 (fun H locs hP _ hS => ?_)
        have hP : va_P X.1 vwCl (cG X gi_42 gl ga_42 vS vF sN sF) H := hP
        refine W.eq (g2 := F0 m 45 ls [.int r42]) rfl ?_
        cases h
        exact W.iret hx hb hr (fun t ht _ => ⟨rfl, by rw [ht]; exact hP, hS.F ht⟩) hS.2.2 dX8_at_45
    · replace h := if_f c18 h
      refine lv_aload_n hx hb dX8_at_21 rfl (lv_at hl 0 rfl) ?_
      refine lv_iconst (v := 1) hx hb dX8_at_22 (by decide) ?_
      obtain ⟨r23, gi_23, ga_23, hc23, h⟩ := bd3_e h
      refine wcV (As := [.int (1 : Int32)]) (rest := []) ⟨hx, hb, hml, hown, hts⟩ (c_X8_found l X gi gl ga vS vF sN sF (1 : Int32) hc23) ⟨w_227, w_229, w_0, w_52, w_230⟩ hd_X8_found rfl rfl ⟨(Nat.le_of_ble_eq_true rfl), (Nat.le_of_ble_eq_true rfl)⟩ ⟨Nat.zero_le _, Nat.zero_le _⟩ gPre_blind (va_recv hK hP (ci := 4) rfl cG_b0) (gPre_call hP hK hN hZ hS) hS (fun _ h => h) rfl rfl hl.1 (Nat.le_of_ble_eq_true rfl) dX8_at_23 (fun H locs hP _ hS => ?_)
      have hP : va_P X.1 vwCl (cG X gi_23 gl ga_23 vS vF sN sF) H := hP
      refine W.eq (g2 := F0 m 26 ls [.int r23]) rfl ?_
      cases h
      exact W.iret hx hb hr (fun t ht _ => ⟨rfl, by rw [ht]; exact hP, hS.F ht⟩) hS.2.2 dX8_at_26
  · replace h := if_t c4 h
    refine lv_iconst (v := -1) hx hb dX8_at_7 (by decide) ?_
    cases h
    exact W.iret hx hb hr (fun t ht _ => ⟨rfl, by rw [ht]; exact hP, hS.F ht⟩) hS.2.2 dX8_at_8
set_option maxRecDepth 100000 in
set_option maxHeartbeats 4000000 in
theorem c_X8_tear (l : Launch) (X : gX) (gi : Nat → Int32) (gl : Nat → Int64) (ga : Nat → Nat → Int32) (vS : Nat → Nat → Int32) (vF : Nat → Nat → Nat → Int32) (sN : Nat → Int32) (sF : Nat → Nat → Int32) (a1 : Int32) {o0 : Int32} {o_gi : Nat → Int32} {o_ga : Nat → Nat → Int32} {o_sN : Nat → Int32} (h : X8_tear a1 gi ga sN = some (o0, o_gi, o_ga, o_sN)) : Met l yX8_tear (Cond.code yX8_tear cX8_tear 2 (some .int) :: gT) { frames := 1, cells := 0, slots := 0, locals := 21 } (va_Pc [.ref (xA X 0), .int a1] (gPre X gi gl ga vS vF sN sF)) (wQ (some (.int o0)) (fun H => va_P X.1 vwCl (cG X o_gi gl o_ga vS vF o_sN sF) H) (gA X)) 0 0 (gA X) := by
  refine Met.ofW (cc := cX8_tear) (maxL := 2) (ret := (some .int)) (by decide) rfl ?_
  intro p e s m args below meth c s₁ B hml hv
  obtain ⟨rfl, hP, hK, hN, hZ⟩ := hv
  have hx := B.exec
  have hb := B.bytes
  have hr := B.returns
  have hts := atoms_spec (ws := (Cond.code yX8_tear cX8_tear 2 (some .int) :: gT)) B.pre
  have hT : ∀ w ∈ gT, w.before _ s = true := fun w hw => hts w (List.mem_cons_of_mem _ hw)
  have hown : s.vm.findClass RX8 = some m.cls := findClass_of_methodNamed B.named
  have hlocks := B.notSynchronized
  have hS : va_S (gA X) s.heap s.heap [] := va_S.rf
  have hl := lv_entry ([.ref (xA X 0), .int a1]) (n := 2) (Nat.le_of_ble_eq_true rfl)
  rw [lg_entry_eq]
  generalize (lg_sl ([.ref (xA X 0), .int a1]) ++ List.replicate (2 - (lg_sl ([.ref (xA X 0), .int a1])).length) Slot.unset).toArray = ls at hl ⊢
  have hl : lv_has ls 2 [(0, .ref (xA X 0)), (1, .int a1)] := hl
  rw [X8_tear] at h
  refine lv_iload_n hx hb dX8_tear_0 rfl (lv_at hl 1 rfl) ?_
  obtain ⟨r1, hc1, h⟩ := Option.bind_eq_some_iff.mp h
  refine rcS (As := [.int a1]) (rest := []) ⟨hx, hb, hml, hown, hts⟩ (c_X8_isRow l a1 hc1) ⟨w_224, w_225, w_52, w_226⟩ hd_X8_isRow rfl rfl ⟨(Nat.le_of_ble_eq_true rfl), (Nat.le_of_ble_eq_true rfl)⟩ ⟨Nat.zero_le _, Nat.zero_le _⟩ (fun _ _ _ _ h => h) (fun _ _ _ => trivial) rfl rfl hl.1 (Nat.le_of_ble_eq_true rfl) dX8_tear_1 ?_
  refine lv_if_ne (tgt := 9) hx hb dX8_tear_4 (by decide) (fun c4 => ?_) (fun c4 => ?_)
  · replace h := if_f c4 h
    refine lv_aload_n hx hb dX8_tear_9 rfl (lv_at hl 0 rfl) ?_
    refine rg_G_rows hx hb hT hown hK hP w_186 dX8_tear_10 ?_
    refine lv_iload_n hx hb dX8_tear_13 rfl (lv_at hl 1 rfl) ?_
    obtain ⟨hi14, h⟩ := gd_e h
    refine rr_rows hx hb hK hP (ib_in hi14) dX8_tear_14 ?_
    obtain ⟨r15, hc15, h⟩ := Option.bind_eq_some_iff.mp h
    refine rcV (As := []) (rest := []) ⟨hx, hb, hml, hown, hts⟩ (c_X6_isMissing l X gi gl ga vS vF sN sF a1.toNatClampNeg (gj6 (ib_in hi14)) hc15) ⟨w_242, w_243, w_244, w_56, w_245⟩ hd_X6_isMissing rfl rfl ⟨(Nat.le_of_ble_eq_true rfl), (Nat.le_of_ble_eq_true rfl)⟩ ⟨Nat.zero_le _, Nat.zero_le _⟩ gPre_blind (va_recv hK hP (ci := 2) rfl (cG_s (gj6 (ib_in hi14)))) (gPre_call hP hK hN hZ hS) rfl rfl hl.1 (Nat.le_of_ble_eq_true rfl) dX8_tear_15 ?_
    refine lv_if_eq (tgt := 27) hx hb dX8_tear_18 (by decide) (fun c18 => ?_) (fun c18 => ?_)
    · replace h := if_t c18 h
      refine lv_aload_n hx hb dX8_tear_27 rfl (lv_at hl 0 rfl) ?_
      refine rg_G_rows hx hb hT hown hK hP w_186 dX8_tear_28 ?_
      refine lv_iload_n hx hb dX8_tear_31 rfl (lv_at hl 1 rfl) ?_
      obtain ⟨hi32, h⟩ := gd_e h
      refine rr_rows hx hb hK hP (ib_in hi32) dX8_tear_32 ?_
      refine lv_iconst (v := -1) hx hb dX8_tear_33 (by decide) ?_
      refine rp_S_size (j := a1.toNatClampNeg) hx hb hT hown hK hP hN hS (gj6 (ib_in hi32)) w_180 dX8_tear_34 (fun H locs hP hS => ?_)
      generalize esN_34 : va_up sN a1.toNatClampNeg (-1 : Int32) = sN_34 at hP
      replace h := lt_g h esN_34
      refine lv_iconst (v := 1) hx hb dX8_tear_37 (by decide) ?_
      cases h
      exact W.iret hx hb hr (fun t ht _ => ⟨rfl, by rw [ht]; exact hP, hS.F ht⟩) hS.2.2 dX8_tear_38
    · replace h := if_f c18 h
      refine lv_aload_n hx hb dX8_tear_21 rfl (lv_at hl 0 rfl) ?_
      refine lv_iconst (v := 1) hx hb dX8_tear_22 (by decide) ?_
      obtain ⟨r23, gi_23, ga_23, hc23, h⟩ := bd3_e h
      refine wcV (As := [.int (1 : Int32)]) (rest := []) ⟨hx, hb, hml, hown, hts⟩ (c_X8_found l X gi gl ga vS vF sN sF (1 : Int32) hc23) ⟨w_227, w_229, w_0, w_52, w_230⟩ hd_X8_found rfl rfl ⟨(Nat.le_of_ble_eq_true rfl), (Nat.le_of_ble_eq_true rfl)⟩ ⟨Nat.zero_le _, Nat.zero_le _⟩ gPre_blind (va_recv hK hP (ci := 4) rfl cG_b0) (gPre_call hP hK hN hZ hS) hS (fun _ h => h) rfl rfl hl.1 (Nat.le_of_ble_eq_true rfl) dX8_tear_23 (fun H locs hP _ hS => ?_)
      have hP : va_P X.1 vwCl (cG X gi_23 gl ga_23 vS vF sN sF) H := hP
      refine W.eq (g2 := F0 m 26 ls [.int r23]) rfl ?_
      cases h
      exact W.iret hx hb hr (fun t ht _ => ⟨rfl, by rw [ht]; exact hP, hS.F ht⟩) hS.2.2 dX8_tear_26
  · replace h := if_t c4 h
    refine lv_iconst (v := -1) hx hb dX8_tear_7 (by decide) ?_
    cases h
    exact W.iret hx hb hr (fun t ht _ => ⟨rfl, by rw [ht]; exact hP, hS.F ht⟩) hS.2.2 dX8_tear_8
set_option maxRecDepth 100000 in
set_option maxHeartbeats 4000000 in
theorem c_X8_copy (l : Launch) (X : gX) (gi : Nat → Int32) (gl : Nat → Int64) (ga : Nat → Nat → Int32) (vS : Nat → Nat → Int32) (vF : Nat → Nat → Nat → Int32) (sN : Nat → Int32) (sF : Nat → Nat → Int32) (a1 : Int32) (a2 : Int32) (a3 : Int32) (a4 : Int32) (a5 : Int32) {o0 : Int32} {o_gi : Nat → Int32} {o_ga : Nat → Nat → Int32} {o_sF : Nat → Nat → Int32} (h : X8_copy sN a1 a2 a3 a4 a5 gi ga sF = some (o0, o_gi, o_ga, o_sF)) : Met l yX8_copy (Cond.code yX8_copy cX8_copy 6 (some .int) :: gT) { frames := 1, cells := 0, slots := 0, locals := 60 } (va_Pc [.ref (xA X 0), .int a1, .int a2, .int a3, .int a4, .int a5] (gPre X gi gl ga vS vF sN sF)) (wQ (some (.int o0)) (fun H => va_P X.1 vwCl (cG X o_gi gl o_ga vS vF sN o_sF) H) (gA X)) 0 0 (gA X) := by
  refine Met.ofW (cc := cX8_copy) (maxL := 6) (ret := (some .int)) (by decide) rfl ?_
  intro p e s m args below meth c s₁ B hml hv
  obtain ⟨rfl, hP, hK, hN, hZ⟩ := hv
  have hx := B.exec
  have hb := B.bytes
  have hr := B.returns
  have hts := atoms_spec (ws := (Cond.code yX8_copy cX8_copy 6 (some .int) :: gT)) B.pre
  have hT : ∀ w ∈ gT, w.before _ s = true := fun w hw => hts w (List.mem_cons_of_mem _ hw)
  have hown : s.vm.findClass RX8 = some m.cls := findClass_of_methodNamed B.named
  have hlocks := B.notSynchronized
  have hS : va_S (gA X) s.heap s.heap [] := va_S.rf
  have hl := lv_entry ([.ref (xA X 0), .int a1, .int a2, .int a3, .int a4, .int a5]) (n := 6) (Nat.le_of_ble_eq_true rfl)
  rw [lg_entry_eq]
  generalize (lg_sl ([.ref (xA X 0), .int a1, .int a2, .int a3, .int a4, .int a5]) ++ List.replicate (6 - (lg_sl ([.ref (xA X 0), .int a1, .int a2, .int a3, .int a4, .int a5])).length) Slot.unset).toArray = ls at hl ⊢
  have hl : lv_has ls 6 [(0, .ref (xA X 0)), (1, .int a1), (2, .int a2), (3, .int a3), (4, .int a4), (5, .int a5)] := hl
  rw [X8_copy] at h
  refine lv_iload_n hx hb dX8_copy_0 rfl (lv_at hl 1 rfl) ?_
  obtain ⟨r1, hc1, h⟩ := Option.bind_eq_some_iff.mp h
  refine rcS (As := [.int a1]) (rest := []) ⟨hx, hb, hml, hown, hts⟩ (c_X8_isRow l a1 hc1) ⟨w_224, w_225, w_52, w_226⟩ hd_X8_isRow rfl rfl ⟨(Nat.le_of_ble_eq_true rfl), (Nat.le_of_ble_eq_true rfl)⟩ ⟨Nat.zero_le _, Nat.zero_le _⟩ (fun _ _ _ _ h => h) (fun _ _ _ => trivial) rfl rfl hl.1 (Nat.le_of_ble_eq_true rfl) dX8_copy_1 ?_
  refine lv_if_eq (tgt := 14) hx hb dX8_copy_4 (by decide) (fun c4 => ?_) (fun c4 => ?_)
  · replace h := if_t c4 h
    refine lv_iconst (v := -1) hx hb dX8_copy_14 (by decide) ?_
    cases h
    exact W.iret hx hb hr (fun t ht _ => ⟨rfl, by rw [ht]; exact hP, hS.F ht⟩) hS.2.2 dX8_copy_15
  · replace h := if_f c4 h
    refine lv_iload_n hx hb dX8_copy_7 rfl (lv_at hl 3 rfl) ?_
    obtain ⟨r8, hc8, h⟩ := Option.bind_eq_some_iff.mp h
    refine rcS (As := [.int a3]) (rest := []) ⟨hx, hb, hml, hown, hts⟩ (c_X8_isRow l a3 hc8) ⟨w_224, w_225, w_52, w_226⟩ hd_X8_isRow rfl rfl ⟨(Nat.le_of_ble_eq_true rfl), (Nat.le_of_ble_eq_true rfl)⟩ ⟨Nat.zero_le _, Nat.zero_le _⟩ (fun _ _ _ _ h => h) (fun _ _ _ => trivial) rfl rfl hl.1 (Nat.le_of_ble_eq_true rfl) dX8_copy_8 ?_
    refine lv_if_ne (tgt := 16) hx hb dX8_copy_11 (by decide) (fun c11 => ?_) (fun c11 => ?_)
    · replace h := if_f c11 h
      refine lv_iload hx hb dX8_copy_16 (lv_at hl 5 rfl) ?_
      refine lv_if_ge (tgt := 27) hx hb dX8_copy_18 (by decide) (fun c18 => ?_) (fun c18 => ?_)
      · replace h := if_t c18 h
        refine lv_aload_n hx hb dX8_copy_27 rfl (lv_at hl 0 rfl) ?_
        refine rg_G_rows hx hb hT hown hK hP w_186 dX8_copy_28 ?_
        refine lv_iload_n hx hb dX8_copy_31 rfl (lv_at hl 1 rfl) ?_
        obtain ⟨hi32, h⟩ := gd_e h
        refine rr_rows hx hb hK hP (ib_in hi32) dX8_copy_32 ?_
        obtain ⟨r33, hc33, h⟩ := Option.bind_eq_some_iff.mp h
        refine rcV (As := []) (rest := []) ⟨hx, hb, hml, hown, hts⟩ (c_X6_isMissing l X gi gl ga vS vF sN sF a1.toNatClampNeg (gj6 (ib_in hi32)) hc33) ⟨w_242, w_243, w_244, w_56, w_245⟩ hd_X6_isMissing rfl rfl ⟨(Nat.le_of_ble_eq_true rfl), (Nat.le_of_ble_eq_true rfl)⟩ ⟨Nat.zero_le _, Nat.zero_le _⟩ gPre_blind (va_recv hK hP (ci := 2) rfl (cG_s (gj6 (ib_in hi32)))) (gPre_call hP hK hN hZ hS) rfl rfl hl.1 (Nat.le_of_ble_eq_true rfl) dX8_copy_33 ?_
        refine lv_if_ne (tgt := 51) hx hb dX8_copy_36 (by decide) (fun c36 => ?_) (fun c36 => ?_)
        · replace h := if_f c36 h
          refine lv_aload_n hx hb dX8_copy_51 rfl (lv_at hl 0 rfl) ?_
          refine lv_iconst (v := 1) hx hb dX8_copy_52 (by decide) ?_
          obtain ⟨r53, gi_53, ga_53, hc53, h⟩ := bd3_e h
          refine wcV (As := [.int (1 : Int32)]) (rest := []) ⟨hx, hb, hml, hown, hts⟩ (c_X8_found l X gi gl ga vS vF sN sF (1 : Int32) hc53) ⟨w_227, w_229, w_0, w_52, w_230⟩ hd_X8_found rfl rfl ⟨(Nat.le_of_ble_eq_true rfl), (Nat.le_of_ble_eq_true rfl)⟩ ⟨Nat.zero_le _, Nat.zero_le _⟩ gPre_blind (va_recv hK hP (ci := 4) rfl cG_b0) (gPre_call hP hK hN hZ hS) hS (fun _ h => h) rfl rfl hl.1 (Nat.le_of_ble_eq_true rfl) dX8_copy_53 (fun H locs hP _ hS => ?_)
          have hP : va_P X.1 vwCl (cG X gi_53 gl ga_53 vS vF sN sF) H := hP
          refine W.eq (g2 := F0 m 56 ls [.int r53]) rfl ?_
          cases h
          exact W.iret hx hb hr (fun t ht _ => ⟨rfl, by rw [ht]; exact hP, hS.F ht⟩) hS.2.2 dX8_copy_56
        · replace h := if_t c36 h
          refine lv_aload_n hx hb dX8_copy_39 rfl (lv_at hl 0 rfl) ?_
          refine rg_G_rows hx hb hT hown hK hP w_186 dX8_copy_40 ?_
          refine lv_iload_n hx hb dX8_copy_43 rfl (lv_at hl 3 rfl) ?_
          obtain ⟨hi44, h⟩ := gd_e h
          refine rr_rows hx hb hK hP (ib_in hi44) dX8_copy_44 ?_
          obtain ⟨r45, hc45, h⟩ := Option.bind_eq_some_iff.mp h
          refine rcV (As := []) (rest := []) ⟨hx, hb, hml, hown, hts⟩ (c_X6_isMissing l X gi gl ga vS vF sN sF a3.toNatClampNeg (gj6 (ib_in hi44)) hc45) ⟨w_242, w_243, w_244, w_56, w_245⟩ hd_X6_isMissing rfl rfl ⟨(Nat.le_of_ble_eq_true rfl), (Nat.le_of_ble_eq_true rfl)⟩ ⟨Nat.zero_le _, Nat.zero_le _⟩ gPre_blind (va_recv hK hP (ci := 2) rfl (cG_s (gj6 (ib_in hi44)))) (gPre_call hP hK hN hZ hS) rfl rfl hl.1 (Nat.le_of_ble_eq_true rfl) dX8_copy_45 ?_
          refine lv_if_eq (tgt := 57) hx hb dX8_copy_48 (by decide) (fun c48 => ?_) (fun c48 => ?_)
          · replace h := if_t c48 h
            refine lv_aload_n hx hb dX8_copy_57 rfl (lv_at hl 0 rfl) ?_
            refine rg_G_rows hx hb hT hown hK hP w_186 dX8_copy_58 ?_
            refine lv_iload_n hx hb dX8_copy_61 rfl (lv_at hl 1 rfl) ?_
            obtain ⟨hi62, h⟩ := gd_e h
            refine rr_rows hx hb hK hP (ib_in hi62) dX8_copy_62 ?_
            refine lv_iload_n hx hb dX8_copy_63 rfl (lv_at hl 2 rfl) ?_
            refine lv_iload hx hb dX8_copy_64 (lv_at hl 5 rfl) ?_
            obtain ⟨r66, hc66, h⟩ := Option.bind_eq_some_iff.mp h
            refine rcV (As := [.int a2, .int a5]) (rest := []) ⟨hx, hb, hml, hown, hts⟩ (c_X6_hasRun l X gi gl ga vS vF sN sF a1.toNatClampNeg (gj6 (ib_in hi62)) a2 a5 hc66) ⟨w_262, w_263, w_264, w_56, w_265⟩ hd_X6_hasRun rfl rfl ⟨(Nat.le_of_ble_eq_true rfl), (Nat.le_of_ble_eq_true rfl)⟩ ⟨Nat.zero_le _, Nat.zero_le _⟩ gPre_blind (va_recv hK hP (ci := 2) rfl (cG_s (gj6 (ib_in hi62)))) (gPre_call hP hK hN hZ hS) rfl rfl hl.1 (Nat.le_of_ble_eq_true rfl) dX8_copy_66 ?_
            refine lv_if_eq (tgt := 88) hx hb dX8_copy_69 (by decide) (fun c69 => ?_) (fun c69 => ?_)
            · replace h := if_t c69 h
              refine lv_aload_n hx hb dX8_copy_88 rfl (lv_at hl 0 rfl) ?_
              refine lv_iconst (v := 2) hx hb dX8_copy_89 (by decide) ?_
              obtain ⟨r90, gi_90, ga_90, hc90, h⟩ := bd3_e h
              refine wcV (As := [.int (2 : Int32)]) (rest := []) ⟨hx, hb, hml, hown, hts⟩ (c_X8_found l X gi gl ga vS vF sN sF (2 : Int32) hc90) ⟨w_227, w_229, w_0, w_52, w_230⟩ hd_X8_found rfl rfl ⟨(Nat.le_of_ble_eq_true rfl), (Nat.le_of_ble_eq_true rfl)⟩ ⟨Nat.zero_le _, Nat.zero_le _⟩ gPre_blind (va_recv hK hP (ci := 4) rfl cG_b0) (gPre_call hP hK hN hZ hS) hS (fun _ h => h) rfl rfl hl.1 (Nat.le_of_ble_eq_true rfl) dX8_copy_90 (fun H locs hP _ hS => ?_)
              have hP : va_P X.1 vwCl (cG X gi_90 gl ga_90 vS vF sN sF) H := hP
              refine W.eq (g2 := F0 m 93 ls [.int r90]) rfl ?_
              cases h
              exact W.iret hx hb hr (fun t ht _ => ⟨rfl, by rw [ht]; exact hP, hS.F ht⟩) hS.2.2 dX8_copy_93
            · replace h := if_f c69 h
              refine lv_aload_n hx hb dX8_copy_72 rfl (lv_at hl 0 rfl) ?_
              refine rg_G_rows hx hb hT hown hK hP w_186 dX8_copy_73 ?_
              refine lv_iload_n hx hb dX8_copy_76 rfl (lv_at hl 3 rfl) ?_
              obtain ⟨hi77, h⟩ := gd_e h
              refine rr_rows hx hb hK hP (ib_in hi77) dX8_copy_77 ?_
              refine lv_iload hx hb dX8_copy_78 (lv_at hl 4 rfl) ?_
              refine lv_iload hx hb dX8_copy_80 (lv_at hl 5 rfl) ?_
              obtain ⟨r82, hc82, h⟩ := Option.bind_eq_some_iff.mp h
              refine rcV (As := [.int a4, .int a5]) (rest := []) ⟨hx, hb, hml, hown, hts⟩ (c_X6_hasRun l X gi gl ga vS vF sN sF a3.toNatClampNeg (gj6 (ib_in hi77)) a4 a5 hc82) ⟨w_262, w_263, w_264, w_56, w_265⟩ hd_X6_hasRun rfl rfl ⟨(Nat.le_of_ble_eq_true rfl), (Nat.le_of_ble_eq_true rfl)⟩ ⟨Nat.zero_le _, Nat.zero_le _⟩ gPre_blind (va_recv hK hP (ci := 2) rfl (cG_s (gj6 (ib_in hi77)))) (gPre_call hP hK hN hZ hS) rfl rfl hl.1 (Nat.le_of_ble_eq_true rfl) dX8_copy_82 ?_
              refine lv_if_ne (tgt := 94) hx hb dX8_copy_85 (by decide) (fun c85 => ?_) (fun c85 => ?_)
              · replace h := if_f c85 h
                refine lv_aload_n hx hb dX8_copy_94 rfl (lv_at hl 0 rfl) ?_
                refine rg_G_rows hx hb hT hown hK hP w_186 dX8_copy_95 ?_
                refine lv_iload_n hx hb dX8_copy_98 rfl (lv_at hl 1 rfl) ?_
                obtain ⟨hi99, h⟩ := gd_e h
                refine rr_rows hx hb hK hP (ib_in hi99) dX8_copy_99 ?_
                refine rg_S_cells (j := a1.toNatClampNeg) hx hb hT hown hK hP (gj6 (ib_in hi99)) w_177 dX8_copy_100 ?_
                refine lv_iload_n hx hb dX8_copy_103 rfl (lv_at hl 2 rfl) ?_
                refine lv_aload_n hx hb dX8_copy_104 rfl (lv_at hl 0 rfl) ?_
                refine rg_G_rows hx hb hT hown hK hP w_186 dX8_copy_105 ?_
                refine lv_iload_n hx hb dX8_copy_108 rfl (lv_at hl 3 rfl) ?_
                obtain ⟨hi109, h⟩ := gd_e h
                refine rr_rows hx hb hK hP (ib_in hi109) dX8_copy_109 ?_
                refine rg_S_cells (j := a3.toNatClampNeg) hx hb hT hown hK hP (gj6 (ib_in hi109)) w_177 dX8_copy_110 ?_
                refine lv_iload hx hb dX8_copy_113 (lv_at hl 4 rfl) ?_
                refine lv_iload hx hb dX8_copy_115 (lv_at hl 5 rfl) ?_
                obtain ⟨hi117, h⟩ := gd_e h
                obtain ⟨ha117, hb117, hc117, hd117, he117⟩ := cpb_e hi117
                refine va_copyi hx hb (hml.trans hl.1.symm) hown (hT _ w_266) (hT _ w_268) (hT _ w_267) (hT _ w_60) hK hP (gD hN) hS (56 + 2 * a1.toNatClampNeg) (56 + 2 * a3.toNatClampNeg) 0 0 (cG_sa (gj6 (ib_in hi99))) (cG_sa (gj6 (ib_in hi109))) rfl rfl rfl ha117 hb117 hc117 hd117 he117 (fun _ _ => rfl) (Nat.le_of_ble_eq_true rfl) (Nat.le_of_ble_eq_true rfl) dX8_copy_117 (fun H locs hP _ hS => ?_)
                have hP : va_P X.1 vwCl (cG X gi gl ga vS vF sN (va_up sF a3.toNatClampNeg (va_cpy (sF a1.toNatClampNeg) (sF a3.toNatClampNeg) a2.toNatClampNeg a4.toNatClampNeg a5.toNatClampNeg))) H := (cG_psa (gj6 (ib_in hi109))) ▸ hP
                generalize esF_117 : va_up sF a3.toNatClampNeg (va_cpy (sF a1.toNatClampNeg) (sF a3.toNatClampNeg) a2.toNatClampNeg a4.toNatClampNeg a5.toNatClampNeg) = sF_117 at hP
                replace h := lt_g h esF_117
                refine lv_iconst (v := 1) hx hb dX8_copy_120 (by decide) ?_
                cases h
                exact W.iret hx hb hr (fun t ht _ => ⟨rfl, by rw [ht]; exact hP, hS.F ht⟩) hS.2.2 dX8_copy_121
              · replace h := if_t c85 h
                refine lv_aload_n hx hb dX8_copy_88 rfl (lv_at hl 0 rfl) ?_
                refine lv_iconst (v := 2) hx hb dX8_copy_89 (by decide) ?_
                obtain ⟨r90, gi_90, ga_90, hc90, h⟩ := bd3_e h
                refine wcV (As := [.int (2 : Int32)]) (rest := []) ⟨hx, hb, hml, hown, hts⟩ (c_X8_found l X gi gl ga vS vF sN sF (2 : Int32) hc90) ⟨w_227, w_229, w_0, w_52, w_230⟩ hd_X8_found rfl rfl ⟨(Nat.le_of_ble_eq_true rfl), (Nat.le_of_ble_eq_true rfl)⟩ ⟨Nat.zero_le _, Nat.zero_le _⟩ gPre_blind (va_recv hK hP (ci := 4) rfl cG_b0) (gPre_call hP hK hN hZ hS) hS (fun _ h => h) rfl rfl hl.1 (Nat.le_of_ble_eq_true rfl) dX8_copy_90 (fun H locs hP _ hS => ?_)
                have hP : va_P X.1 vwCl (cG X gi_90 gl ga_90 vS vF sN sF) H := hP
                refine W.eq (g2 := F0 m 93 ls [.int r90]) rfl ?_
                cases h
                exact W.iret hx hb hr (fun t ht _ => ⟨rfl, by rw [ht]; exact hP, hS.F ht⟩) hS.2.2 dX8_copy_93
          · replace h := if_f c48 h
            refine lv_aload_n hx hb dX8_copy_51 rfl (lv_at hl 0 rfl) ?_
            refine lv_iconst (v := 1) hx hb dX8_copy_52 (by decide) ?_
            obtain ⟨r53, gi_53, ga_53, hc53, h⟩ := bd3_e h
            refine wcV (As := [.int (1 : Int32)]) (rest := []) ⟨hx, hb, hml, hown, hts⟩ (c_X8_found l X gi gl ga vS vF sN sF (1 : Int32) hc53) ⟨w_227, w_229, w_0, w_52, w_230⟩ hd_X8_found rfl rfl ⟨(Nat.le_of_ble_eq_true rfl), (Nat.le_of_ble_eq_true rfl)⟩ ⟨Nat.zero_le _, Nat.zero_le _⟩ gPre_blind (va_recv hK hP (ci := 4) rfl cG_b0) (gPre_call hP hK hN hZ hS) hS (fun _ h => h) rfl rfl hl.1 (Nat.le_of_ble_eq_true rfl) dX8_copy_53 (fun H locs hP _ hS => ?_)
            have hP : va_P X.1 vwCl (cG X gi_53 gl ga_53 vS vF sN sF) H := hP
            refine W.eq (g2 := F0 m 56 ls [.int r53]) rfl ?_
            cases h
            exact W.iret hx hb hr (fun t ht _ => ⟨rfl, by rw [ht]; exact hP, hS.F ht⟩) hS.2.2 dX8_copy_56
      · replace h := if_f c18 h
        refine lv_aload_n hx hb dX8_copy_21 rfl (lv_at hl 0 rfl) ?_
        refine lv_iconst (v := 5) hx hb dX8_copy_22 (by decide) ?_
        obtain ⟨r23, gi_23, ga_23, hc23, h⟩ := bd3_e h
        refine wcV (As := [.int (5 : Int32)]) (rest := []) ⟨hx, hb, hml, hown, hts⟩ (c_X8_found l X gi gl ga vS vF sN sF (5 : Int32) hc23) ⟨w_227, w_229, w_0, w_52, w_230⟩ hd_X8_found rfl rfl ⟨(Nat.le_of_ble_eq_true rfl), (Nat.le_of_ble_eq_true rfl)⟩ ⟨Nat.zero_le _, Nat.zero_le _⟩ gPre_blind (va_recv hK hP (ci := 4) rfl cG_b0) (gPre_call hP hK hN hZ hS) hS (fun _ h => h) rfl rfl hl.1 (Nat.le_of_ble_eq_true rfl) dX8_copy_23 (fun H locs hP _ hS => ?_)
        have hP : va_P X.1 vwCl (cG X gi_23 gl ga_23 vS vF sN sF) H := hP
        refine W.eq (g2 := F0 m 26 ls [.int r23]) rfl ?_
        cases h
        exact W.iret hx hb hr (fun t ht _ => ⟨rfl, by rw [ht]; exact hP, hS.F ht⟩) hS.2.2 dX8_copy_26
    · replace h := if_t c11 h
      refine lv_iconst (v := -1) hx hb dX8_copy_14 (by decide) ?_
      cases h
      exact W.iret hx hb hr (fun t ht _ => ⟨rfl, by rw [ht]; exact hP, hS.F ht⟩) hS.2.2 dX8_copy_15
set_option maxRecDepth 100000 in
set_option maxHeartbeats 4000000 in
theorem c_X8_mean (l : Launch) (X : gX) (gi : Nat → Int32) (gl : Nat → Int64) (ga : Nat → Nat → Int32) (vS : Nat → Nat → Int32) (vF : Nat → Nat → Nat → Int32) (sN : Nat → Int32) (sF : Nat → Nat → Int32) (a1 : Int32) {o0 : Int32} {o_gi : Nat → Int32} {o_ga : Nat → Nat → Int32} (h : X8_mean sN sF a1 gi ga = some (o0, o_gi, o_ga)) : Met l yX8_mean (Cond.code yX8_mean cX8_mean 2 (some .int) :: gT) { frames := 1, cells := 0, slots := 0, locals := 23 } (va_Pc [.ref (xA X 0), .int a1] (gPre X gi gl ga vS vF sN sF)) (wQ (some (.int o0)) (fun H => va_P X.1 vwCl (cG X o_gi gl o_ga vS vF sN sF) H) (gA X)) 0 0 (gA X) := by
  refine Met.ofW (cc := cX8_mean) (maxL := 2) (ret := (some .int)) (by decide) rfl ?_
  intro p e s m args below meth c s₁ B hml hv
  obtain ⟨rfl, hP, hK, hN, hZ⟩ := hv
  have hx := B.exec
  have hb := B.bytes
  have hr := B.returns
  have hts := atoms_spec (ws := (Cond.code yX8_mean cX8_mean 2 (some .int) :: gT)) B.pre
  have hT : ∀ w ∈ gT, w.before _ s = true := fun w hw => hts w (List.mem_cons_of_mem _ hw)
  have hown : s.vm.findClass RX8 = some m.cls := findClass_of_methodNamed B.named
  have hlocks := B.notSynchronized
  have hS : va_S (gA X) s.heap s.heap [] := va_S.rf
  have hl := lv_entry ([.ref (xA X 0), .int a1]) (n := 2) (Nat.le_of_ble_eq_true rfl)
  rw [lg_entry_eq]
  generalize (lg_sl ([.ref (xA X 0), .int a1]) ++ List.replicate (2 - (lg_sl ([.ref (xA X 0), .int a1])).length) Slot.unset).toArray = ls at hl ⊢
  have hl : lv_has ls 2 [(0, .ref (xA X 0)), (1, .int a1)] := hl
  rw [X8_mean] at h
  refine lv_iload_n hx hb dX8_mean_0 rfl (lv_at hl 1 rfl) ?_
  obtain ⟨r1, hc1, h⟩ := Option.bind_eq_some_iff.mp h
  refine rcS (As := [.int a1]) (rest := []) ⟨hx, hb, hml, hown, hts⟩ (c_X8_isRow l a1 hc1) ⟨w_224, w_225, w_52, w_226⟩ hd_X8_isRow rfl rfl ⟨(Nat.le_of_ble_eq_true rfl), (Nat.le_of_ble_eq_true rfl)⟩ ⟨Nat.zero_le _, Nat.zero_le _⟩ (fun _ _ _ _ h => h) (fun _ _ _ => trivial) rfl rfl hl.1 (Nat.le_of_ble_eq_true rfl) dX8_mean_1 ?_
  refine lv_if_ne (tgt := 9) hx hb dX8_mean_4 (by decide) (fun c4 => ?_) (fun c4 => ?_)
  · replace h := if_f c4 h
    refine lv_aload_n hx hb dX8_mean_9 rfl (lv_at hl 0 rfl) ?_
    refine rg_G_rows hx hb hT hown hK hP w_186 dX8_mean_10 ?_
    refine lv_iload_n hx hb dX8_mean_13 rfl (lv_at hl 1 rfl) ?_
    obtain ⟨hi14, h⟩ := gd_e h
    refine rr_rows hx hb hK hP (ib_in hi14) dX8_mean_14 ?_
    obtain ⟨r15, hc15, h⟩ := Option.bind_eq_some_iff.mp h
    refine rcV (As := []) (rest := []) ⟨hx, hb, hml, hown, hts⟩ (c_X6_isMissing l X gi gl ga vS vF sN sF a1.toNatClampNeg (gj6 (ib_in hi14)) hc15) ⟨w_242, w_243, w_244, w_56, w_245⟩ hd_X6_isMissing rfl rfl ⟨(Nat.le_of_ble_eq_true rfl), (Nat.le_of_ble_eq_true rfl)⟩ ⟨Nat.zero_le _, Nat.zero_le _⟩ gPre_blind (va_recv hK hP (ci := 2) rfl (cG_s (gj6 (ib_in hi14)))) (gPre_call hP hK hN hZ hS) rfl rfl hl.1 (Nat.le_of_ble_eq_true rfl) dX8_mean_15 ?_
    refine lv_if_eq (tgt := 27) hx hb dX8_mean_18 (by decide) (fun c18 => ?_) (fun c18 => ?_)
    · replace h := if_t c18 h
      refine lv_aload_n hx hb dX8_mean_27 rfl (lv_at hl 0 rfl) ?_
      refine rg_G_rows hx hb hT hown hK hP w_186 dX8_mean_28 ?_
      refine lv_iload_n hx hb dX8_mean_31 rfl (lv_at hl 1 rfl) ?_
      obtain ⟨hi32, h⟩ := gd_e h
      refine rr_rows hx hb hK hP (ib_in hi32) dX8_mean_32 ?_
      refine rg_S_size (j := a1.toNatClampNeg) hx hb hT hown hK hP (gj6 (ib_in hi32)) w_180 dX8_mean_33 ?_
      refine lv_if_ne (tgt := 45) hx hb dX8_mean_36 (by decide) (fun c36 => ?_) (fun c36 => ?_)
      · replace h := if_f c36 h
        refine lv_aload_n hx hb dX8_mean_45 rfl (lv_at hl 0 rfl) ?_
        refine lv_aload_n hx hb dX8_mean_46 rfl (lv_at hl 0 rfl) ?_
        refine rg_G_rows hx hb hT hown hK hP w_186 dX8_mean_47 ?_
        refine lv_iload_n hx hb dX8_mean_50 rfl (lv_at hl 1 rfl) ?_
        obtain ⟨hi51, h⟩ := gd_e h
        refine rr_rows hx hb hK hP (ib_in hi51) dX8_mean_51 ?_
        obtain ⟨r52, hc52, h⟩ := Option.bind_eq_some_iff.mp h
        refine rcV (As := []) (rest := [.ref (xA X 0)]) ⟨hx, hb, hml, hown, hts⟩ (c_X6_sum l X gi gl ga vS vF sN sF a1.toNatClampNeg (gj6 (ib_in hi51)) hc52) ⟨w_273, w_274, w_275, w_56, w_276⟩ hd_X6_sum rfl rfl ⟨(Nat.le_of_ble_eq_true rfl), (Nat.le_of_ble_eq_true rfl)⟩ ⟨Nat.zero_le _, Nat.zero_le _⟩ gPre_blind (va_recv hK hP (ci := 2) rfl (cG_s (gj6 (ib_in hi51)))) (gPre_call hP hK hN hZ hS) rfl rfl hl.1 (Nat.le_of_ble_eq_true rfl) dX8_mean_52 ?_
        refine lv_aload_n hx hb dX8_mean_55 rfl (lv_at hl 0 rfl) ?_
        refine rg_G_rows hx hb hT hown hK hP w_186 dX8_mean_56 ?_
        refine lv_iload_n hx hb dX8_mean_59 rfl (lv_at hl 1 rfl) ?_
        obtain ⟨hi60, h⟩ := gd_e h
        refine rr_rows hx hb hK hP (ib_in hi60) dX8_mean_60 ?_
        refine rg_S_size (j := a1.toNatClampNeg) hx hb hT hown hK hP (gj6 (ib_in hi60)) w_180 dX8_mean_61 ?_
        refine lv_i2l hx hb dX8_mean_64 rfl ?_
        obtain ⟨hne65, h⟩ := gn_e h
        refine lv_ldiv hx hb dX8_mean_65 hne65 ?_
        refine lv_l2i hx hb dX8_mean_66 rfl ?_
        refine rp_G_told hx hb hT hown hK hP hN hS w_194 dX8_mean_67 (fun H locs hP hS => ?_)
        generalize egi_67 : va_up gi 1 ((r52 / (sN a1.toNatClampNeg).toInt64).toInt32) = gi_67 at hP
        replace h := lt_g h egi_67
        refine lv_iconst (v := 1) hx hb dX8_mean_70 (by decide) ?_
        cases h
        exact W.iret hx hb hr (fun t ht _ => ⟨rfl, by rw [ht]; exact hP, hS.F ht⟩) hS.2.2 dX8_mean_71
      · replace h := if_t c36 h
        refine lv_aload_n hx hb dX8_mean_39 rfl (lv_at hl 0 rfl) ?_
        refine lv_iconst (v := 4) hx hb dX8_mean_40 (by decide) ?_
        obtain ⟨r41, gi_41, ga_41, hc41, h⟩ := bd3_e h
        refine wcV (As := [.int (4 : Int32)]) (rest := []) ⟨hx, hb, hml, hown, hts⟩ (c_X8_found l X gi gl ga vS vF sN sF (4 : Int32) hc41) ⟨w_227, w_229, w_0, w_52, w_230⟩ hd_X8_found rfl rfl ⟨(Nat.le_of_ble_eq_true rfl), (Nat.le_of_ble_eq_true rfl)⟩ ⟨Nat.zero_le _, Nat.zero_le _⟩ gPre_blind (va_recv hK hP (ci := 4) rfl cG_b0) (gPre_call hP hK hN hZ hS) hS (fun _ h => h) rfl rfl hl.1 (Nat.le_of_ble_eq_true rfl) dX8_mean_41 (fun H locs hP _ hS => ?_)
        have hP : va_P X.1 vwCl (cG X gi_41 gl ga_41 vS vF sN sF) H := hP
        refine W.eq (g2 := F0 m 44 ls [.int r41]) rfl ?_
        cases h
        exact W.iret hx hb hr (fun t ht _ => ⟨rfl, by rw [ht]; exact hP, hS.F ht⟩) hS.2.2 dX8_mean_44
    · replace h := if_f c18 h
      refine lv_aload_n hx hb dX8_mean_21 rfl (lv_at hl 0 rfl) ?_
      refine lv_iconst (v := 1) hx hb dX8_mean_22 (by decide) ?_
      obtain ⟨r23, gi_23, ga_23, hc23, h⟩ := bd3_e h
      refine wcV (As := [.int (1 : Int32)]) (rest := []) ⟨hx, hb, hml, hown, hts⟩ (c_X8_found l X gi gl ga vS vF sN sF (1 : Int32) hc23) ⟨w_227, w_229, w_0, w_52, w_230⟩ hd_X8_found rfl rfl ⟨(Nat.le_of_ble_eq_true rfl), (Nat.le_of_ble_eq_true rfl)⟩ ⟨Nat.zero_le _, Nat.zero_le _⟩ gPre_blind (va_recv hK hP (ci := 4) rfl cG_b0) (gPre_call hP hK hN hZ hS) hS (fun _ h => h) rfl rfl hl.1 (Nat.le_of_ble_eq_true rfl) dX8_mean_23 (fun H locs hP _ hS => ?_)
      have hP : va_P X.1 vwCl (cG X gi_23 gl ga_23 vS vF sN sF) H := hP
      refine W.eq (g2 := F0 m 26 ls [.int r23]) rfl ?_
      cases h
      exact W.iret hx hb hr (fun t ht _ => ⟨rfl, by rw [ht]; exact hP, hS.F ht⟩) hS.2.2 dX8_mean_26
  · replace h := if_t c4 h
    refine lv_iconst (v := -1) hx hb dX8_mean_7 (by decide) ?_
    cases h
    exact W.iret hx hb hr (fun t ht _ => ⟨rfl, by rw [ht]; exact hP, hS.F ht⟩) hS.2.2 dX8_mean_8
set_option maxRecDepth 100000 in
set_option maxHeartbeats 4000000 in
theorem c_X8_text (l : Launch) (X : gX) (gi : Nat → Int32) (gl : Nat → Int64) (ga : Nat → Nat → Int32) (vS : Nat → Nat → Int32) (vF : Nat → Nat → Nat → Int32) (sN : Nat → Int32) (sF : Nat → Nat → Int32) (a1 : Int32) (a2 : Int32) {o0 : Int32} {o_gi : Nat → Int32} {o_ga : Nat → Nat → Int32} {o_sN : Nat → Int32} {o_sF : Nat → Nat → Int32} (h : X8_text a1 a2 gi ga sN sF = some (o0, o_gi, o_ga, o_sN, o_sF)) : Met l yX8_text (Cond.code yX8_text cX8_text 3 (some .int) :: gT) { frames := 2, cells := 0, slots := 0, locals := 45 } (va_Pc [.ref (xA X 0), .int a1, .int a2] (gPre X gi gl ga vS vF sN sF)) (wQ (some (.int o0)) (fun H => va_P X.1 vwCl (cG X o_gi gl o_ga vS vF o_sN o_sF) H) (gA X)) 0 0 (gA X) := by
  refine Met.ofW (cc := cX8_text) (maxL := 3) (ret := (some .int)) (by decide) rfl ?_
  intro p e s m args below meth c s₁ B hml hv
  obtain ⟨rfl, hP, hK, hN, hZ⟩ := hv
  have hx := B.exec
  have hb := B.bytes
  have hr := B.returns
  have hts := atoms_spec (ws := (Cond.code yX8_text cX8_text 3 (some .int) :: gT)) B.pre
  have hT : ∀ w ∈ gT, w.before _ s = true := fun w hw => hts w (List.mem_cons_of_mem _ hw)
  have hown : s.vm.findClass RX8 = some m.cls := findClass_of_methodNamed B.named
  have hlocks := B.notSynchronized
  have hS : va_S (gA X) s.heap s.heap [] := va_S.rf
  have hl := lv_entry ([.ref (xA X 0), .int a1, .int a2]) (n := 3) (Nat.le_of_ble_eq_true rfl)
  rw [lg_entry_eq]
  generalize (lg_sl ([.ref (xA X 0), .int a1, .int a2]) ++ List.replicate (3 - (lg_sl ([.ref (xA X 0), .int a1, .int a2])).length) Slot.unset).toArray = ls at hl ⊢
  have hl : lv_has ls 3 [(0, .ref (xA X 0)), (1, .int a1), (2, .int a2)] := hl
  rw [X8_text] at h
  refine lv_iload_n hx hb dX8_text_0 rfl (lv_at hl 1 rfl) ?_
  obtain ⟨r1, hc1, h⟩ := Option.bind_eq_some_iff.mp h
  refine rcS (As := [.int a1]) (rest := []) ⟨hx, hb, hml, hown, hts⟩ (c_X8_isText l a1 hc1) ⟨w_281, w_282, w_52, w_283⟩ hd_X8_isText rfl rfl ⟨(Nat.le_of_ble_eq_true rfl), (Nat.le_of_ble_eq_true rfl)⟩ ⟨Nat.zero_le _, Nat.zero_le _⟩ (fun _ _ _ _ h => h) (fun _ _ _ => trivial) rfl rfl hl.1 (Nat.le_of_ble_eq_true rfl) dX8_text_1 ?_
  refine lv_if_eq (tgt := 13) hx hb dX8_text_4 (by decide) (fun c4 => ?_) (fun c4 => ?_)
  · replace h := if_t c4 h
    refine lv_iconst (v := -1) hx hb dX8_text_13 (by decide) ?_
    cases h
    exact W.iret hx hb hr (fun t ht _ => ⟨rfl, by rw [ht]; exact hP, hS.F ht⟩) hS.2.2 dX8_text_14
  · replace h := if_f c4 h
    refine lv_iload_n hx hb dX8_text_7 rfl (lv_at hl 2 rfl) ?_
    refine lv_bipush (v := 60) hx hb dX8_text_8 (by decide) ?_
    refine lv_icmp_le (tgt := 15) hx hb dX8_text_10 (by decide) (fun c10 => ?_) (fun c10 => ?_)
    · replace h := if_t c10 h
      refine lv_iload_n hx hb dX8_text_15 rfl (lv_at hl 2 rfl) ?_
      refine lv_if_ge (tgt := 25) hx hb dX8_text_16 (by decide) (fun c16 => ?_) (fun c16 => ?_)
      · replace h := if_t c16 h
        refine lv_aload_n hx hb dX8_text_25 rfl (lv_at hl 0 rfl) ?_
        refine rg_G_texts hx hb hT hown hK hP w_187 dX8_text_26 ?_
        refine lv_iload_n hx hb dX8_text_29 rfl (lv_at hl 1 rfl) ?_
        obtain ⟨hi30, h⟩ := gd_e h
        refine rr_texts hx hb hK hP (ib_in hi30) dX8_text_30 ?_
        refine lv_iload_n hx hb dX8_text_31 rfl (lv_at hl 2 rfl) ?_
        refine lv_bipush (v := 32) hx hb dX8_text_32 (by decide) ?_
        obtain ⟨sN_34, sF_34, hc34, h⟩ := bd2_e h
        refine wcV (As := [.int a2, .int (32 : Int32)]) (rest := []) ⟨hx, hb, hml, hown, hts⟩ (c_X6_layOut l X gi gl ga vS vF sN sF (6 + a1.toNatClampNeg) (gj4 (ib_in hi30)) a2 (32 : Int32) hc34) ⟨w_231, w_232, w_233, w_56, w_234⟩ hd_X6_layOut rfl rfl ⟨(Nat.le_of_ble_eq_true rfl), (Nat.le_of_ble_eq_true rfl)⟩ ⟨Nat.zero_le _, Nat.zero_le _⟩ gPre_blind (va_recv hK hP (ci := 2) rfl (cG_s (gj4 (ib_in hi30)))) (gPre_call hP hK hN hZ hS) hS (fun _ h => h) rfl rfl hl.1 (Nat.le_of_ble_eq_true rfl) dX8_text_34 (fun H locs hP _ hS => ?_)
        have hP : va_P X.1 vwCl (cG X gi gl ga vS vF sN_34 sF_34) H := hP
        refine W.eq (g2 := F0 m 37 ls []) rfl ?_
        refine lv_iload_n hx hb dX8_text_37 rfl (lv_at hl 2 rfl) ?_
        cases h
        exact W.iret hx hb hr (fun t ht _ => ⟨rfl, by rw [ht]; exact hP, hS.F ht⟩) hS.2.2 dX8_text_38
      · replace h := if_f c16 h
        refine lv_aload_n hx hb dX8_text_19 rfl (lv_at hl 0 rfl) ?_
        refine lv_iconst (v := 5) hx hb dX8_text_20 (by decide) ?_
        obtain ⟨r21, gi_21, ga_21, hc21, h⟩ := bd3_e h
        refine wcV (As := [.int (5 : Int32)]) (rest := []) ⟨hx, hb, hml, hown, hts⟩ (c_X8_found l X gi gl ga vS vF sN sF (5 : Int32) hc21) ⟨w_227, w_229, w_0, w_52, w_230⟩ hd_X8_found rfl rfl ⟨(Nat.le_of_ble_eq_true rfl), (Nat.le_of_ble_eq_true rfl)⟩ ⟨Nat.zero_le _, Nat.zero_le _⟩ gPre_blind (va_recv hK hP (ci := 4) rfl cG_b0) (gPre_call hP hK hN hZ hS) hS (fun _ h => h) rfl rfl hl.1 (Nat.le_of_ble_eq_true rfl) dX8_text_21 (fun H locs hP _ hS => ?_)
        have hP : va_P X.1 vwCl (cG X gi_21 gl ga_21 vS vF sN sF) H := hP
        refine W.eq (g2 := F0 m 24 ls [.int r21]) rfl ?_
        cases h
        exact W.iret hx hb hr (fun t ht _ => ⟨rfl, by rw [ht]; exact hP, hS.F ht⟩) hS.2.2 dX8_text_24
    · replace h := if_f c10 h
      refine lv_iconst (v := -1) hx hb dX8_text_13 (by decide) ?_
      cases h
      exact W.iret hx hb hr (fun t ht _ => ⟨rfl, by rw [ht]; exact hP, hS.F ht⟩) hS.2.2 dX8_text_14
set_option maxRecDepth 100000 in
set_option maxHeartbeats 4000000 in
theorem c_X8_put (l : Launch) (X : gX) (gi : Nat → Int32) (gl : Nat → Int64) (ga : Nat → Nat → Int32) (vS : Nat → Nat → Int32) (vF : Nat → Nat → Nat → Int32) (sN : Nat → Int32) (sF : Nat → Nat → Int32) (a1 : Int32) (a2 : Int32) (a3 : Int32) {o0 : Int32} {o_gi : Nat → Int32} {o_ga : Nat → Nat → Int32} {o_sF : Nat → Nat → Int32} (h : X8_put sN a1 a2 a3 gi ga sF = some (o0, o_gi, o_ga, o_sF)) : Met l yX8_put (Cond.code yX8_put cX8_put 5 (some .int) :: gT) { frames := 1, cells := 0, slots := 0, locals := 21 } (va_Pc [.ref (xA X 0), .int a1, .int a2, .int a3] (gPre X gi gl ga vS vF sN sF)) (wQ (some (.int o0)) (fun H => va_P X.1 vwCl (cG X o_gi gl o_ga vS vF sN o_sF) H) (gA X)) 0 0 (gA X) := by
  refine Met.ofW (cc := cX8_put) (maxL := 5) (ret := (some .int)) (by decide) rfl ?_
  intro p e s m args below meth c s₁ B hml hv
  obtain ⟨rfl, hP, hK, hN, hZ⟩ := hv
  have hx := B.exec
  have hb := B.bytes
  have hr := B.returns
  have hts := atoms_spec (ws := (Cond.code yX8_put cX8_put 5 (some .int) :: gT)) B.pre
  have hT : ∀ w ∈ gT, w.before _ s = true := fun w hw => hts w (List.mem_cons_of_mem _ hw)
  have hown : s.vm.findClass RX8 = some m.cls := findClass_of_methodNamed B.named
  have hlocks := B.notSynchronized
  have hS : va_S (gA X) s.heap s.heap [] := va_S.rf
  have hl := lv_entry ([.ref (xA X 0), .int a1, .int a2, .int a3]) (n := 5) (Nat.le_of_ble_eq_true rfl)
  rw [lg_entry_eq]
  generalize (lg_sl ([.ref (xA X 0), .int a1, .int a2, .int a3]) ++ List.replicate (5 - (lg_sl ([.ref (xA X 0), .int a1, .int a2, .int a3])).length) Slot.unset).toArray = ls at hl ⊢
  have hl : lv_has ls 5 [(0, .ref (xA X 0)), (1, .int a1), (2, .int a2), (3, .int a3)] := hl
  rw [X8_put] at h
  refine lv_iload_n hx hb dX8_put_0 rfl (lv_at hl 1 rfl) ?_
  obtain ⟨r1, hc1, h⟩ := Option.bind_eq_some_iff.mp h
  refine rcS (As := [.int a1]) (rest := []) ⟨hx, hb, hml, hown, hts⟩ (c_X8_isText l a1 hc1) ⟨w_281, w_282, w_52, w_283⟩ hd_X8_isText rfl rfl ⟨(Nat.le_of_ble_eq_true rfl), (Nat.le_of_ble_eq_true rfl)⟩ ⟨Nat.zero_le _, Nat.zero_le _⟩ (fun _ _ _ _ h => h) (fun _ _ _ => trivial) rfl rfl hl.1 (Nat.le_of_ble_eq_true rfl) dX8_put_1 ?_
  refine lv_if_ne (tgt := 9) hx hb dX8_put_4 (by decide) (fun c4 => ?_) (fun c4 => ?_)
  · replace h := if_f c4 h
    refine lv_aload_n hx hb dX8_put_9 rfl (lv_at hl 0 rfl) ?_
    refine rg_G_texts hx hb hT hown hK hP w_187 dX8_put_10 ?_
    refine lv_iload_n hx hb dX8_put_13 rfl (lv_at hl 1 rfl) ?_
    obtain ⟨hi14, h⟩ := gd_e h
    refine rr_texts hx hb hK hP (ib_in hi14) dX8_put_14 ?_
    obtain ⟨r15, hc15, h⟩ := Option.bind_eq_some_iff.mp h
    refine rcV (As := []) (rest := []) ⟨hx, hb, hml, hown, hts⟩ (c_X6_isMissing l X gi gl ga vS vF sN sF (6 + a1.toNatClampNeg) (gj4 (ib_in hi14)) hc15) ⟨w_242, w_243, w_244, w_56, w_245⟩ hd_X6_isMissing rfl rfl ⟨(Nat.le_of_ble_eq_true rfl), (Nat.le_of_ble_eq_true rfl)⟩ ⟨Nat.zero_le _, Nat.zero_le _⟩ gPre_blind (va_recv hK hP (ci := 2) rfl (cG_s (gj4 (ib_in hi14)))) (gPre_call hP hK hN hZ hS) rfl rfl hl.1 (Nat.le_of_ble_eq_true rfl) dX8_put_15 ?_
    refine lv_if_eq (tgt := 27) hx hb dX8_put_18 (by decide) (fun c18 => ?_) (fun c18 => ?_)
    · replace h := if_t c18 h
      refine lv_aload_n hx hb dX8_put_27 rfl (lv_at hl 0 rfl) ?_
      refine rg_G_texts hx hb hT hown hK hP w_187 dX8_put_28 ?_
      refine lv_iload_n hx hb dX8_put_31 rfl (lv_at hl 1 rfl) ?_
      obtain ⟨hi32, h⟩ := gd_e h
      refine rr_texts hx hb hK hP (ib_in hi32) dX8_put_32 ?_
      refine lv_iload_n hx hb dX8_put_33 rfl (lv_at hl 2 rfl) ?_
      obtain ⟨r34, hc34, h⟩ := Option.bind_eq_some_iff.mp h
      refine rcV (As := [.int a2]) (rest := []) ⟨hx, hb, hml, hown, hts⟩ (c_X6_has l X gi gl ga vS vF sN sF (6 + a1.toNatClampNeg) (gj4 (ib_in hi32)) a2 hc34) ⟨w_246, w_247, w_248, w_56, w_249⟩ hd_X6_has rfl rfl ⟨(Nat.le_of_ble_eq_true rfl), (Nat.le_of_ble_eq_true rfl)⟩ ⟨Nat.zero_le _, Nat.zero_le _⟩ gPre_blind (va_recv hK hP (ci := 2) rfl (cG_s (gj4 (ib_in hi32)))) (gPre_call hP hK hN hZ hS) rfl rfl hl.1 (Nat.le_of_ble_eq_true rfl) dX8_put_34 ?_
      refine lv_if_ne (tgt := 46) hx hb dX8_put_37 (by decide) (fun c37 => ?_) (fun c37 => ?_)
      · replace h := if_f c37 h
        refine lv_aload_n hx hb dX8_put_46 rfl (lv_at hl 0 rfl) ?_
        refine rg_G_texts hx hb hT hown hK hP w_187 dX8_put_47 ?_
        refine lv_iload_n hx hb dX8_put_50 rfl (lv_at hl 1 rfl) ?_
        obtain ⟨hi51, h⟩ := gd_e h
        refine rr_texts hx hb hK hP (ib_in hi51) dX8_put_51 ?_
        refine rg_S_cells (j := (6 + a1.toNatClampNeg)) hx hb hT hown hK hP (gj4 (ib_in hi51)) w_177 dX8_put_52 ?_
        refine lv_iload_n hx hb dX8_put_55 rfl (lv_at hl 2 rfl) ?_
        obtain ⟨hi56, h⟩ := gd_e h
        refine ra_s (j := (6 + a1.toNatClampNeg)) hx hb hK hP (gj4 (ib_in hi51)) (ib_in hi56) dX8_put_56 ?_
        refine lv_istore (lv' := [(4, .int (sF (6 + a1.toNatClampNeg) a2.toNatClampNeg)), (0, .ref (xA X 0)), (1, .int a1), (2, .int a2), (3, .int a3)]) hx hb dX8_put_57 hl (by decide) rfl (fun ls hl => ?_)
        refine lv_aload_n hx hb dX8_put_59 rfl (lv_at hl 1 rfl) ?_
        refine rg_G_texts hx hb hT hown hK hP w_187 dX8_put_60 ?_
        refine lv_iload_n hx hb dX8_put_63 rfl (lv_at hl 2 rfl) ?_
        obtain ⟨hi64, h⟩ := gd_e h
        refine rr_texts hx hb hK hP (ib_in hi64) dX8_put_64 ?_
        refine rg_S_cells (j := (6 + a1.toNatClampNeg)) hx hb hT hown hK hP (gj4 (ib_in hi64)) w_177 dX8_put_65 ?_
        refine lv_iload_n hx hb dX8_put_68 rfl (lv_at hl 3 rfl) ?_
        refine lv_iload_n hx hb dX8_put_69 rfl (lv_at hl 4 rfl) ?_
        refine lv_i2b hx hb dX8_put_70 rfl ?_
        obtain ⟨hi71, h⟩ := gd_e h
        refine rs_s (j := (6 + a1.toNatClampNeg)) hx hb hK hP hN hS (gj4 (ib_in hi64)) (ib_in hi71) dX8_put_71 (fun H locs hP hS => ?_)
        generalize esF_71 : va_up sF (6 + a1.toNatClampNeg) (upd (sF (6 + a1.toNatClampNeg)) a2.toNatClampNeg a3.toInt8.toInt32) = sF_71 at hP
        replace h := lt_g h esF_71
        refine lv_iload hx hb dX8_put_72 (lv_at hl 0 rfl) ?_
        refine lv_sipush (v := 1000) hx hb dX8_put_74 (by decide) ?_
        refine lv_iadd hx hb dX8_put_77 ?_
        cases h
        exact W.iret hx hb hr (fun t ht _ => ⟨rfl, by rw [ht]; exact hP, hS.F ht⟩) hS.2.2 dX8_put_78
      · replace h := if_t c37 h
        refine lv_aload_n hx hb dX8_put_40 rfl (lv_at hl 0 rfl) ?_
        refine lv_iconst (v := 2) hx hb dX8_put_41 (by decide) ?_
        obtain ⟨r42, gi_42, ga_42, hc42, h⟩ := bd3_e h
        refine wcV (As := [.int (2 : Int32)]) (rest := []) ⟨hx, hb, hml, hown, hts⟩ (c_X8_found l X gi gl ga vS vF sN sF (2 : Int32) hc42) ⟨w_227, w_229, w_0, w_52, w_230⟩ hd_X8_found rfl rfl ⟨(Nat.le_of_ble_eq_true rfl), (Nat.le_of_ble_eq_true rfl)⟩ ⟨Nat.zero_le _, Nat.zero_le _⟩ gPre_blind (va_recv hK hP (ci := 4) rfl cG_b0) (gPre_call hP hK hN hZ hS) hS (fun _ h => h) rfl rfl hl.1 (Nat.le_of_ble_eq_true rfl) dX8_put_42 (fun H locs hP _ hS => ?_)
        have hP : va_P X.1 vwCl (cG X gi_42 gl ga_42 vS vF sN sF) H := hP
        refine W.eq (g2 := F0 m 45 ls [.int r42]) rfl ?_
        cases h
        exact W.iret hx hb hr (fun t ht _ => ⟨rfl, by rw [ht]; exact hP, hS.F ht⟩) hS.2.2 dX8_put_45
    · replace h := if_f c18 h
      refine lv_aload_n hx hb dX8_put_21 rfl (lv_at hl 0 rfl) ?_
      refine lv_iconst (v := 1) hx hb dX8_put_22 (by decide) ?_
      obtain ⟨r23, gi_23, ga_23, hc23, h⟩ := bd3_e h
      refine wcV (As := [.int (1 : Int32)]) (rest := []) ⟨hx, hb, hml, hown, hts⟩ (c_X8_found l X gi gl ga vS vF sN sF (1 : Int32) hc23) ⟨w_227, w_229, w_0, w_52, w_230⟩ hd_X8_found rfl rfl ⟨(Nat.le_of_ble_eq_true rfl), (Nat.le_of_ble_eq_true rfl)⟩ ⟨Nat.zero_le _, Nat.zero_le _⟩ gPre_blind (va_recv hK hP (ci := 4) rfl cG_b0) (gPre_call hP hK hN hZ hS) hS (fun _ h => h) rfl rfl hl.1 (Nat.le_of_ble_eq_true rfl) dX8_put_23 (fun H locs hP _ hS => ?_)
      have hP : va_P X.1 vwCl (cG X gi_23 gl ga_23 vS vF sN sF) H := hP
      refine W.eq (g2 := F0 m 26 ls [.int r23]) rfl ?_
      cases h
      exact W.iret hx hb hr (fun t ht _ => ⟨rfl, by rw [ht]; exact hP, hS.F ht⟩) hS.2.2 dX8_put_26
  · replace h := if_t c4 h
    refine lv_iconst (v := -1) hx hb dX8_put_7 (by decide) ?_
    cases h
    exact W.iret hx hb hr (fun t ht _ => ⟨rfl, by rw [ht]; exact hP, hS.F ht⟩) hS.2.2 dX8_put_8
set_option maxRecDepth 100000 in
set_option maxHeartbeats 4000000 in
theorem c_X8_fault (l : Launch) (X : gX) (gi : Nat → Int32) (gl : Nat → Int64) (ga : Nat → Nat → Int32) (vS : Nat → Nat → Int32) (vF : Nat → Nat → Nat → Int32) (sN : Nat → Int32) (sF : Nat → Nat → Int32) (a1 : Int32) {o0 : Int32} {o_gi : Nat → Int32} {o_ga : Nat → Nat → Int32} (h : X8_fault sN sF a1 gi ga = some (o0, o_gi, o_ga)) : Met l yX8_fault (Cond.code yX8_fault cX8_fault 2 (some .int) :: gT) { frames := 3, cells := 0, slots := 0, locals := 67 } (va_Pc [.ref (xA X 0), .int a1] (gPre X gi gl ga vS vF sN sF)) (wQ (some (.int o0)) (fun H => va_P X.1 vwCl (cG X o_gi gl o_ga vS vF sN sF) H) (gA X)) 0 0 (gA X) := by
  refine Met.ofW (cc := cX8_fault) (maxL := 2) (ret := (some .int)) (by decide) rfl ?_
  intro p e s m args below meth c s₁ B hml hv
  obtain ⟨rfl, hP, hK, hN, hZ⟩ := hv
  have hx := B.exec
  have hb := B.bytes
  have hr := B.returns
  have hts := atoms_spec (ws := (Cond.code yX8_fault cX8_fault 2 (some .int) :: gT)) B.pre
  have hT : ∀ w ∈ gT, w.before _ s = true := fun w hw => hts w (List.mem_cons_of_mem _ hw)
  have hown : s.vm.findClass RX8 = some m.cls := findClass_of_methodNamed B.named
  have hlocks := B.notSynchronized
  have hS : va_S (gA X) s.heap s.heap [] := va_S.rf
  have hl := lv_entry ([.ref (xA X 0), .int a1]) (n := 2) (Nat.le_of_ble_eq_true rfl)
  rw [lg_entry_eq]
  generalize (lg_sl ([.ref (xA X 0), .int a1]) ++ List.replicate (2 - (lg_sl ([.ref (xA X 0), .int a1])).length) Slot.unset).toArray = ls at hl ⊢
  have hl : lv_has ls 2 [(0, .ref (xA X 0)), (1, .int a1)] := hl
  rw [X8_fault] at h
  refine lv_iload_n hx hb dX8_fault_0 rfl (lv_at hl 1 rfl) ?_
  obtain ⟨r1, hc1, h⟩ := Option.bind_eq_some_iff.mp h
  refine rcS (As := [.int a1]) (rest := []) ⟨hx, hb, hml, hown, hts⟩ (c_X8_isText l a1 hc1) ⟨w_281, w_282, w_52, w_283⟩ hd_X8_isText rfl rfl ⟨(Nat.le_of_ble_eq_true rfl), (Nat.le_of_ble_eq_true rfl)⟩ ⟨Nat.zero_le _, Nat.zero_le _⟩ (fun _ _ _ _ h => h) (fun _ _ _ => trivial) rfl rfl hl.1 (Nat.le_of_ble_eq_true rfl) dX8_fault_1 ?_
  refine lv_if_ne (tgt := 9) hx hb dX8_fault_4 (by decide) (fun c4 => ?_) (fun c4 => ?_)
  · replace h := if_f c4 h
    refine lv_aload_n hx hb dX8_fault_9 rfl (lv_at hl 0 rfl) ?_
    refine rg_G_texts hx hb hT hown hK hP w_187 dX8_fault_10 ?_
    refine lv_iload_n hx hb dX8_fault_13 rfl (lv_at hl 1 rfl) ?_
    obtain ⟨hi14, h⟩ := gd_e h
    refine rr_texts hx hb hK hP (ib_in hi14) dX8_fault_14 ?_
    obtain ⟨r15, hc15, h⟩ := Option.bind_eq_some_iff.mp h
    refine rcV (As := []) (rest := []) ⟨hx, hb, hml, hown, hts⟩ (c_X6_isMissing l X gi gl ga vS vF sN sF (6 + a1.toNatClampNeg) (gj4 (ib_in hi14)) hc15) ⟨w_242, w_243, w_244, w_56, w_245⟩ hd_X6_isMissing rfl rfl ⟨(Nat.le_of_ble_eq_true rfl), (Nat.le_of_ble_eq_true rfl)⟩ ⟨Nat.zero_le _, Nat.zero_le _⟩ gPre_blind (va_recv hK hP (ci := 2) rfl (cG_s (gj4 (ib_in hi14)))) (gPre_call hP hK hN hZ hS) rfl rfl hl.1 (Nat.le_of_ble_eq_true rfl) dX8_fault_15 ?_
    refine lv_if_eq (tgt := 27) hx hb dX8_fault_18 (by decide) (fun c18 => ?_) (fun c18 => ?_)
    · replace h := if_t c18 h
      refine lv_aload_n hx hb dX8_fault_27 rfl (lv_at hl 0 rfl) ?_
      refine rg_G_texts hx hb hT hown hK hP w_187 dX8_fault_28 ?_
      refine lv_iload_n hx hb dX8_fault_31 rfl (lv_at hl 1 rfl) ?_
      obtain ⟨hi32, h⟩ := gd_e h
      refine rr_texts hx hb hK hP (ib_in hi32) dX8_fault_32 ?_
      obtain ⟨r33, hc33, h⟩ := Option.bind_eq_some_iff.mp h
      refine rcS (As := [.ref (xAS X (6 + a1.toNatClampNeg) 0)]) (rest := []) ⟨hx, hb, hml, hown, hts⟩ (c_X5_faultPlace l X gi gl ga vS vF sN sF (6 + a1.toNatClampNeg) (gj4 (ib_in hi32)) hc33) ⟨w_292, w_293, w_61, w_294⟩ hd_X5_faultPlace rfl rfl ⟨(Nat.le_of_ble_eq_true rfl), (Nat.le_of_ble_eq_true rfl)⟩ ⟨Nat.zero_le _, Nat.zero_le _⟩ gPre_blind (gPre_call hP hK hN hZ hS) rfl rfl hl.1 (Nat.le_of_ble_eq_true rfl) dX8_fault_33 ?_
      cases h
      exact W.iret hx hb hr (fun t ht _ => ⟨rfl, by rw [ht]; exact hP, hS.F ht⟩) hS.2.2 dX8_fault_36
    · replace h := if_f c18 h
      refine lv_aload_n hx hb dX8_fault_21 rfl (lv_at hl 0 rfl) ?_
      refine lv_iconst (v := 1) hx hb dX8_fault_22 (by decide) ?_
      obtain ⟨r23, gi_23, ga_23, hc23, h⟩ := bd3_e h
      refine wcV (As := [.int (1 : Int32)]) (rest := []) ⟨hx, hb, hml, hown, hts⟩ (c_X8_found l X gi gl ga vS vF sN sF (1 : Int32) hc23) ⟨w_227, w_229, w_0, w_52, w_230⟩ hd_X8_found rfl rfl ⟨(Nat.le_of_ble_eq_true rfl), (Nat.le_of_ble_eq_true rfl)⟩ ⟨Nat.zero_le _, Nat.zero_le _⟩ gPre_blind (va_recv hK hP (ci := 4) rfl cG_b0) (gPre_call hP hK hN hZ hS) hS (fun _ h => h) rfl rfl hl.1 (Nat.le_of_ble_eq_true rfl) dX8_fault_23 (fun H locs hP _ hS => ?_)
      have hP : va_P X.1 vwCl (cG X gi_23 gl ga_23 vS vF sN sF) H := hP
      refine W.eq (g2 := F0 m 26 ls [.int r23]) rfl ?_
      cases h
      exact W.iret hx hb hr (fun t ht _ => ⟨rfl, by rw [ht]; exact hP, hS.F ht⟩) hS.2.2 dX8_fault_26
  · replace h := if_t c4 h
    refine lv_iconst (v := -1) hx hb dX8_fault_7 (by decide) ?_
    cases h
    exact W.iret hx hb hr (fun t ht _ => ⟨rfl, by rw [ht]; exact hP, hS.F ht⟩) hS.2.2 dX8_fault_8
set_option maxRecDepth 100000 in
set_option maxHeartbeats 4000000 in
theorem c_X8_village (l : Launch) (X : gX) (gi : Nat → Int32) (gl : Nat → Int64) (ga : Nat → Nat → Int32) (vS : Nat → Nat → Int32) (vF : Nat → Nat → Nat → Int32) (sN : Nat → Int32) (sF : Nat → Nat → Int32) (a1 : Int32) {o0 : Int32} {o_gi : Nat → Int32} {o_ga : Nat → Nat → Int32} {o_vS : Nat → Nat → Int32} {o_vF : Nat → Nat → Nat → Int32} (h : X8_village sN sF a1 gi ga vS vF = some (o0, o_gi, o_ga, o_vS, o_vF)) : Met l yX8_village (Cond.code yX8_village cX8_village 3 (some .int) :: gT) { frames := 4, cells := 0, slots := 0, locals := 105 } (va_Pc [.ref (xA X 0), .int a1] (gPre X gi gl ga vS vF sN sF)) (wQ (some (.int o0)) (fun H => va_P X.1 vwCl (cG X o_gi gl o_ga o_vS o_vF sN sF) H) (gA X)) 0 0 (gA X) := by
  refine Met.ofW (cc := cX8_village) (maxL := 3) (ret := (some .int)) (by decide) rfl ?_
  intro p e s m args below meth c s₁ B hml hv
  obtain ⟨rfl, hP, hK, hN, hZ⟩ := hv
  have hx := B.exec
  have hb := B.bytes
  have hr := B.returns
  have hts := atoms_spec (ws := (Cond.code yX8_village cX8_village 3 (some .int) :: gT)) B.pre
  have hT : ∀ w ∈ gT, w.before _ s = true := fun w hw => hts w (List.mem_cons_of_mem _ hw)
  have hown : s.vm.findClass RX8 = some m.cls := findClass_of_methodNamed B.named
  have hlocks := B.notSynchronized
  have hS : va_S (gA X) s.heap s.heap [] := va_S.rf
  have hl := lv_entry ([.ref (xA X 0), .int a1]) (n := 3) (Nat.le_of_ble_eq_true rfl)
  rw [lg_entry_eq]
  generalize (lg_sl ([.ref (xA X 0), .int a1]) ++ List.replicate (3 - (lg_sl ([.ref (xA X 0), .int a1])).length) Slot.unset).toArray = ls at hl ⊢
  have hl : lv_has ls 3 [(0, .ref (xA X 0)), (1, .int a1)] := hl
  have hL59 : ∀ (n59 : Nat) (v2 : Int32) (gi : Nat → Int32) (ga : Nat → Nat → Int32) (vS : Nat → Nat → Int32) (vF : Nat → Nat → Nat → Int32) (H : Heap) (locs : List Loc) (ls : Array Slot), lv_has ls 3 [(0, .ref (xA X 0)), (2, .int v2)] → va_P X.1 vwCl (cG X gi gl ga vS vF sN sF) H → va_S (gA X) s.heap H locs → X8_village_59 sN sF n59 v2 gi ga vS vF = some (o0, o_gi, o_ga, o_vS, o_vF) → W p l e (headSpec (Cond.code yX8_village cX8_village 3 (some .int) :: gT) { frames := 4, cells := 0, slots := 0, locals := 105 }).room s m [.ref (xA X 0), .int a1].toArray below meth c H locs 0 0 (MQ below (wQ (some (.int o0)) (fun H => va_P X.1 vwCl (cG X o_gi gl o_ga o_vS o_vF sN sF) H) (gA X)) [.ref (xA X 0), .int a1].toArray s 0 0 (gA X)) (F0 m 59 ls []) := by
    intro n59
    induction n59 with
    | zero =>
      intro v2 gi ga vS vF H locs ls hl hP hS h
      rw [X8_village_59] at h
      cases h
    | succ n59 ih59 =>
      intro v2 gi ga vS vF H locs ls hl hP hS h
      rw [X8_village_59] at h
      refine lv_iload_n hx hb dX8_village_59 rfl (lv_at hl 1 rfl) ?_
      refine lv_iconst (v := 3) hx hb dX8_village_60 (by decide) ?_
      refine lv_icmp_ge (tgt := 80) hx hb dX8_village_61 (by decide) (fun c61 => ?_) (fun c61 => ?_)
      · replace h := if_t c61 h
        refine lv_aload_n hx hb dX8_village_80 rfl (lv_at hl 0 rfl) ?_
        refine rg_G_village hx hb hT hown hK hP w_188 dX8_village_81 ?_
        refine rg_V_people (q := (0)) hx hb hT hown hK hP (by decide : 0 < 4) w_87 dX8_village_84 ?_
        cases h
        exact W.iret hx hb hr (fun t ht _ => ⟨rfl, by rw [ht]; exact hP, hS.F ht⟩) hS.2.2 dX8_village_87
      · replace h := if_f c61 h
        refine lv_aload_n hx hb dX8_village_64 rfl (lv_at hl 0 rfl) ?_
        refine rg_G_kept hx hb hT hown hK hP w_189 dX8_village_65 ?_
        refine lv_iload_n hx hb dX8_village_68 rfl (lv_at hl 1 rfl) ?_
        obtain ⟨hi69, h⟩ := gd_e h
        refine rr_kept hx hb hK hP (ib_in hi69) dX8_village_69 ?_
        refine lv_iconst (v := 0) hx hb dX8_village_70 (by decide) ?_
        refine rp_V_people (q := (1 + v2.toNatClampNeg)) hx hb hT hown hK hP hN hS (gq3 (ib_in hi69)) w_87 dX8_village_71 (fun H locs hP hS => ?_)
        generalize evS_71 : u2 vS (1 + v2.toNatClampNeg) 0 (0 : Int32) = vS_71 at hP
        replace h := lt_g h evS_71
        refine lv_iinc (v := (v2 + (1 : Int32))) (lv' := [(2, .int (v2 + (1 : Int32))), (0, .ref (xA X 0))]) hx hb dX8_village_74 hl (k := 1) rfl rfl (by decide) rfl (fun ls hl => ?_)
        refine lv_goto (tgt := 59) hx hb dX8_village_77 (by decide) ?_
        exact ih59 (v2 + (1 : Int32)) gi ga vS_71 vF _ _ ls (lv_sub hl [1, 0] rfl) hP hS h
  rw [X8_village] at h
  refine lv_iload_n hx hb dX8_village_0 rfl (lv_at hl 1 rfl) ?_
  obtain ⟨r1, hc1, h⟩ := Option.bind_eq_some_iff.mp h
  refine rcS (As := [.int a1]) (rest := []) ⟨hx, hb, hml, hown, hts⟩ (c_X8_isText l a1 hc1) ⟨w_281, w_282, w_52, w_283⟩ hd_X8_isText rfl rfl ⟨(Nat.le_of_ble_eq_true rfl), (Nat.le_of_ble_eq_true rfl)⟩ ⟨Nat.zero_le _, Nat.zero_le _⟩ (fun _ _ _ _ h => h) (fun _ _ _ => trivial) rfl rfl hl.1 (Nat.le_of_ble_eq_true rfl) dX8_village_1 ?_
  refine lv_if_ne (tgt := 9) hx hb dX8_village_4 (by decide) (fun c4 => ?_) (fun c4 => ?_)
  · replace h := if_f c4 h
    refine lv_aload_n hx hb dX8_village_9 rfl (lv_at hl 0 rfl) ?_
    refine rg_G_texts hx hb hT hown hK hP w_187 dX8_village_10 ?_
    refine lv_iload_n hx hb dX8_village_13 rfl (lv_at hl 1 rfl) ?_
    obtain ⟨hi14, h⟩ := gd_e h
    refine rr_texts hx hb hK hP (ib_in hi14) dX8_village_14 ?_
    obtain ⟨r15, hc15, h⟩ := Option.bind_eq_some_iff.mp h
    refine rcV (As := []) (rest := []) ⟨hx, hb, hml, hown, hts⟩ (c_X6_isMissing l X gi gl ga vS vF sN sF (6 + a1.toNatClampNeg) (gj4 (ib_in hi14)) hc15) ⟨w_242, w_243, w_244, w_56, w_245⟩ hd_X6_isMissing rfl rfl ⟨(Nat.le_of_ble_eq_true rfl), (Nat.le_of_ble_eq_true rfl)⟩ ⟨Nat.zero_le _, Nat.zero_le _⟩ gPre_blind (va_recv hK hP (ci := 2) rfl (cG_s (gj4 (ib_in hi14)))) (gPre_call hP hK hN hZ hS) rfl rfl hl.1 (Nat.le_of_ble_eq_true rfl) dX8_village_15 ?_
    refine lv_if_eq (tgt := 27) hx hb dX8_village_18 (by decide) (fun c18 => ?_) (fun c18 => ?_)
    · replace h := if_t c18 h
      refine lv_aload_n hx hb dX8_village_27 rfl (lv_at hl 0 rfl) ?_
      refine rg_G_texts hx hb hT hown hK hP w_187 dX8_village_28 ?_
      refine lv_iload_n hx hb dX8_village_31 rfl (lv_at hl 1 rfl) ?_
      obtain ⟨hi32, h⟩ := gd_e h
      refine rr_texts hx hb hK hP (ib_in hi32) dX8_village_32 ?_
      obtain ⟨r33, hc33, h⟩ := Option.bind_eq_some_iff.mp h
      refine rcS (As := [.ref (xAS X (6 + a1.toNatClampNeg) 0)]) (rest := []) ⟨hx, hb, hml, hown, hts⟩ (c_X5_faultPlace l X gi gl ga vS vF sN sF (6 + a1.toNatClampNeg) (gj4 (ib_in hi32)) hc33) ⟨w_292, w_293, w_61, w_294⟩ hd_X5_faultPlace rfl rfl ⟨(Nat.le_of_ble_eq_true rfl), (Nat.le_of_ble_eq_true rfl)⟩ ⟨Nat.zero_le _, Nat.zero_le _⟩ gPre_blind (gPre_call hP hK hN hZ hS) rfl rfl hl.1 (Nat.le_of_ble_eq_true rfl) dX8_village_33 ?_
      refine lv_bipush (v := -9) hx hb dX8_village_36 (by decide) ?_
      refine lv_icmp_eq (tgt := 44) hx hb dX8_village_38 (by decide) (fun c38 => ?_) (fun c38 => ?_)
      · replace h := if_t c38 h
        refine lv_aload_n hx hb dX8_village_44 rfl (lv_at hl 0 rfl) ?_
        refine rg_G_texts hx hb hT hown hK hP w_187 dX8_village_45 ?_
        refine lv_iload_n hx hb dX8_village_48 rfl (lv_at hl 1 rfl) ?_
        obtain ⟨hi49, h⟩ := gd_e h
        refine rr_texts hx hb hK hP (ib_in hi49) dX8_village_49 ?_
        refine lv_aload_n hx hb dX8_village_50 rfl (lv_at hl 0 rfl) ?_
        refine rg_G_village hx hb hT hown hK hP w_188 dX8_village_51 ?_
        obtain ⟨vS_54, vF_54, hc54, h⟩ := bd2_e h
        refine wcS (As := [.ref (xAS X (6 + a1.toNatClampNeg) 0), .ref (xAV X (0) 0)]) (rest := []) ⟨hx, hb, hml, hown, hts⟩ (c_X5_settle l X gi gl ga vS vF sN sF (6 + a1.toNatClampNeg) (gj4 (ib_in hi49)) hc54) ⟨w_307, w_308, w_61, w_309⟩ hd_X5_settle rfl rfl ⟨(Nat.le_of_ble_eq_true rfl), (Nat.le_of_ble_eq_true rfl)⟩ ⟨Nat.zero_le _, Nat.zero_le _⟩ gPre_blind (gPre_call hP hK hN hZ hS) hS (fun _ h => h) rfl rfl hl.1 (Nat.le_of_ble_eq_true rfl) dX8_village_54 (fun H locs hP _ hS => ?_)
        have hP : va_P X.1 vwCl (cG X gi gl ga vS_54 vF_54 sN sF) H := hP
        refine W.eq (g2 := F0 m 57 ls []) rfl ?_
        refine lv_iconst (v := 0) hx hb dX8_village_57 (by decide) ?_
        refine lv_istore_n (lv' := [(2, .int (0 : Int32)), (0, .ref (xA X 0)), (1, .int a1)]) hx hb dX8_village_58 rfl hl (by decide) rfl (fun ls hl => ?_)
        exact hL59 500 (0 : Int32) gi ga vS_54 vF_54 _ _ ls (lv_sub hl [1, 0] rfl) hP hS h
      · replace h := if_f c38 h
        refine lv_bipush (v := -4) hx hb dX8_village_41 (by decide) ?_
        cases h
        exact W.iret hx hb hr (fun t ht _ => ⟨rfl, by rw [ht]; exact hP, hS.F ht⟩) hS.2.2 dX8_village_43
    · replace h := if_f c18 h
      refine lv_aload_n hx hb dX8_village_21 rfl (lv_at hl 0 rfl) ?_
      refine lv_iconst (v := 1) hx hb dX8_village_22 (by decide) ?_
      obtain ⟨r23, gi_23, ga_23, hc23, h⟩ := bd3_e h
      refine wcV (As := [.int (1 : Int32)]) (rest := []) ⟨hx, hb, hml, hown, hts⟩ (c_X8_found l X gi gl ga vS vF sN sF (1 : Int32) hc23) ⟨w_227, w_229, w_0, w_52, w_230⟩ hd_X8_found rfl rfl ⟨(Nat.le_of_ble_eq_true rfl), (Nat.le_of_ble_eq_true rfl)⟩ ⟨Nat.zero_le _, Nat.zero_le _⟩ gPre_blind (va_recv hK hP (ci := 4) rfl cG_b0) (gPre_call hP hK hN hZ hS) hS (fun _ h => h) rfl rfl hl.1 (Nat.le_of_ble_eq_true rfl) dX8_village_23 (fun H locs hP _ hS => ?_)
      have hP : va_P X.1 vwCl (cG X gi_23 gl ga_23 vS vF sN sF) H := hP
      refine W.eq (g2 := F0 m 26 ls [.int r23]) rfl ?_
      cases h
      exact W.iret hx hb hr (fun t ht _ => ⟨rfl, by rw [ht]; exact hP, hS.F ht⟩) hS.2.2 dX8_village_26
  · replace h := if_t c4 h
    refine lv_iconst (v := -1) hx hb dX8_village_7 (by decide) ?_
    cases h
    exact W.iret hx hb hr (fun t ht _ => ⟨rfl, by rw [ht]; exact hP, hS.F ht⟩) hS.2.2 dX8_village_8
set_option maxRecDepth 100000 in
set_option maxHeartbeats 4000000 in
theorem c_X8_person (l : Launch) (X : gX) (gi : Nat → Int32) (gl : Nat → Int64) (ga : Nat → Nat → Int32) (vS : Nat → Nat → Int32) (vF : Nat → Nat → Nat → Int32) (sN : Nat → Int32) (sF : Nat → Nat → Int32) (a1 : Int32) (a2 : Int32) {o0 : Int32} {o_gi : Nat → Int32} (h : X8_person vS vF a1 a2 gi = some (o0, o_gi)) : Met l yX8_person (Cond.code yX8_person cX8_person 3 (some .int) :: gT) { frames := 4, cells := 0, slots := 0, locals := 88 } (va_Pc [.ref (xA X 0), .int a1, .int a2] (gPre X gi gl ga vS vF sN sF)) (wQ (some (.int o0)) (fun H => va_P X.1 vwCl (cG X o_gi gl ga vS vF sN sF) H) (gA X)) 0 0 (gA X) := by
  refine Met.ofW (cc := cX8_person) (maxL := 3) (ret := (some .int)) (by decide) rfl ?_
  intro p e s m args below meth c s₁ B hml hv
  obtain ⟨rfl, hP, hK, hN, hZ⟩ := hv
  have hx := B.exec
  have hb := B.bytes
  have hr := B.returns
  have hts := atoms_spec (ws := (Cond.code yX8_person cX8_person 3 (some .int) :: gT)) B.pre
  have hT : ∀ w ∈ gT, w.before _ s = true := fun w hw => hts w (List.mem_cons_of_mem _ hw)
  have hown : s.vm.findClass RX8 = some m.cls := findClass_of_methodNamed B.named
  have hlocks := B.notSynchronized
  have hS : va_S (gA X) s.heap s.heap [] := va_S.rf
  have hl := lv_entry ([.ref (xA X 0), .int a1, .int a2]) (n := 3) (Nat.le_of_ble_eq_true rfl)
  rw [lg_entry_eq]
  generalize (lg_sl ([.ref (xA X 0), .int a1, .int a2]) ++ List.replicate (3 - (lg_sl ([.ref (xA X 0), .int a1, .int a2])).length) Slot.unset).toArray = ls at hl ⊢
  have hl : lv_has ls 3 [(0, .ref (xA X 0)), (1, .int a1), (2, .int a2)] := hl
  rw [X8_person] at h
  refine lv_aload_n hx hb dX8_person_0 rfl (lv_at hl 0 rfl) ?_
  refine rg_G_village hx hb hT hown hK hP w_188 dX8_person_1 ?_
  refine lv_iload_n hx hb dX8_person_4 rfl (lv_at hl 1 rfl) ?_
  obtain ⟨r5, hc5, h⟩ := Option.bind_eq_some_iff.mp h
  refine rcV (As := [.int a1]) (rest := []) ⟨hx, hb, hml, hown, hts⟩ (c_X7_isPerson l X gi gl ga vS vF sN sF a1 hc5) ⟨w_328, w_329, w_330, w_53, w_331⟩ hd_X7_isPerson rfl rfl ⟨(Nat.le_of_ble_eq_true rfl), (Nat.le_of_ble_eq_true rfl)⟩ ⟨Nat.zero_le _, Nat.zero_le _⟩ gPre_blind (va_recv hK hP (ci := 3) rfl (cG_v (by decide : 0 < 4))) (gPre_call hP hK hN hZ hS) rfl rfl hl.1 (Nat.le_of_ble_eq_true rfl) dX8_person_5 ?_
  refine lv_if_eq (tgt := 21) hx hb dX8_person_8 (by decide) (fun c8 => ?_) (fun c8 => ?_)
  · replace h := if_t c8 h
    refine lv_iconst (v := -1) hx hb dX8_person_21 (by decide) ?_
    cases h
    exact W.iret hx hb hr (fun t ht _ => ⟨rfl, by rw [ht]; exact hP, hS.F ht⟩) hS.2.2 dX8_person_22
  · replace h := if_f c8 h
    refine lv_iload_n hx hb dX8_person_11 rfl (lv_at hl 2 rfl) ?_
    refine lv_if_lt (tgt := 21) hx hb dX8_person_12 (by decide) (fun c12 => ?_) (fun c12 => ?_)
    · replace h := if_t c12 h
      refine lv_iconst (v := -1) hx hb dX8_person_21 (by decide) ?_
      cases h
      exact W.iret hx hb hr (fun t ht _ => ⟨rfl, by rw [ht]; exact hP, hS.F ht⟩) hS.2.2 dX8_person_22
    · replace h := if_f c12 h
      refine lv_iload_n hx hb dX8_person_15 rfl (lv_at hl 2 rfl) ?_
      refine lv_bipush (v := 6) hx hb dX8_person_16 (by decide) ?_
      refine lv_icmp_lt (tgt := 23) hx hb dX8_person_18 (by decide) (fun c18 => ?_) (fun c18 => ?_)
      · replace h := if_t c18 h
        refine lv_aload_n hx hb dX8_person_23 rfl (lv_at hl 0 rfl) ?_
        refine lv_aload_n hx hb dX8_person_24 rfl (lv_at hl 0 rfl) ?_
        refine lv_iload_n hx hb dX8_person_25 rfl (lv_at hl 1 rfl) ?_
        refine lv_iload_n hx hb dX8_person_26 rfl (lv_at hl 2 rfl) ?_
        obtain ⟨r27, hc27, h⟩ := Option.bind_eq_some_iff.mp h
        refine rcV (As := [.int a1, .int a2]) (rest := [.ref (xA X 0)]) ⟨hx, hb, hml, hown, hts⟩ (c_X8_fact l X gi gl ga vS vF sN sF a1 a2 hc27) ⟨w_332, w_334, w_2, w_52, w_335⟩ hd_X8_fact rfl rfl ⟨(Nat.le_of_ble_eq_true rfl), (Nat.le_of_ble_eq_true rfl)⟩ ⟨Nat.zero_le _, Nat.zero_le _⟩ gPre_blind (va_recv hK hP (ci := 4) rfl cG_b0) (gPre_call hP hK hN hZ hS) rfl rfl hl.1 (Nat.le_of_ble_eq_true rfl) dX8_person_27 ?_
        refine rp_G_told hx hb hT hown hK hP hN hS w_194 dX8_person_30 (fun H locs hP hS => ?_)
        generalize egi_30 : va_up gi 1 r27 = gi_30 at hP
        replace h := lt_g h egi_30
        refine lv_iconst (v := 1) hx hb dX8_person_33 (by decide) ?_
        cases h
        exact W.iret hx hb hr (fun t ht _ => ⟨rfl, by rw [ht]; exact hP, hS.F ht⟩) hS.2.2 dX8_person_34
      · replace h := if_f c18 h
        refine lv_iconst (v := -1) hx hb dX8_person_21 (by decide) ?_
        cases h
        exact W.iret hx hb hr (fun t ht _ => ⟨rfl, by rw [ht]; exact hP, hS.F ht⟩) hS.2.2 dX8_person_22
set_option maxRecDepth 100000 in
set_option maxHeartbeats 4000000 in
theorem c_X8_mark (l : Launch) (X : gX) (gi : Nat → Int32) (gl : Nat → Int64) (ga : Nat → Nat → Int32) (vS : Nat → Nat → Int32) (vF : Nat → Nat → Nat → Int32) (sN : Nat → Int32) (sF : Nat → Nat → Int32) (a1 : Int32) (a2 : Int32) {o0 : Int32} {o_gi : Nat → Int32} {o_ga : Nat → Nat → Int32} (h : X8_mark vS vF a1 a2 gi ga = some (o0, o_gi, o_ga)) : Met l yX8_mark (Cond.code yX8_mark cX8_mark 3 (some .int) :: gT) { frames := 5, cells := 0, slots := 0, locals := 119 } (va_Pc [.ref (xA X 0), .int a1, .int a2] (gPre X gi gl ga vS vF sN sF)) (wQ (some (.int o0)) (fun H => va_P X.1 vwCl (cG X o_gi gl o_ga vS vF sN sF) H) (gA X)) 0 0 (gA X) := by
  refine Met.ofW (cc := cX8_mark) (maxL := 3) (ret := (some .int)) (by decide) rfl ?_
  intro p e s m args below meth c s₁ B hml hv
  obtain ⟨rfl, hP, hK, hN, hZ⟩ := hv
  have hx := B.exec
  have hb := B.bytes
  have hr := B.returns
  have hts := atoms_spec (ws := (Cond.code yX8_mark cX8_mark 3 (some .int) :: gT)) B.pre
  have hT : ∀ w ∈ gT, w.before _ s = true := fun w hw => hts w (List.mem_cons_of_mem _ hw)
  have hown : s.vm.findClass RX8 = some m.cls := findClass_of_methodNamed B.named
  have hlocks := B.notSynchronized
  have hS : va_S (gA X) s.heap s.heap [] := va_S.rf
  have hl := lv_entry ([.ref (xA X 0), .int a1, .int a2]) (n := 3) (Nat.le_of_ble_eq_true rfl)
  rw [lg_entry_eq]
  generalize (lg_sl ([.ref (xA X 0), .int a1, .int a2]) ++ List.replicate (3 - (lg_sl ([.ref (xA X 0), .int a1, .int a2])).length) Slot.unset).toArray = ls at hl ⊢
  have hl : lv_has ls 3 [(0, .ref (xA X 0)), (1, .int a1), (2, .int a2)] := hl
  rw [X8_mark] at h
  refine lv_aload_n hx hb dX8_mark_0 rfl (lv_at hl 0 rfl) ?_
  refine rg_G_village hx hb hT hown hK hP w_188 dX8_mark_1 ?_
  refine lv_iload_n hx hb dX8_mark_4 rfl (lv_at hl 1 rfl) ?_
  obtain ⟨r5, hc5, h⟩ := Option.bind_eq_some_iff.mp h
  refine rcV (As := [.int a1]) (rest := []) ⟨hx, hb, hml, hown, hts⟩ (c_X7_isPerson l X gi gl ga vS vF sN sF a1 hc5) ⟨w_328, w_329, w_330, w_53, w_331⟩ hd_X7_isPerson rfl rfl ⟨(Nat.le_of_ble_eq_true rfl), (Nat.le_of_ble_eq_true rfl)⟩ ⟨Nat.zero_le _, Nat.zero_le _⟩ gPre_blind (va_recv hK hP (ci := 3) rfl (cG_v (by decide : 0 < 4))) (gPre_call hP hK hN hZ hS) rfl rfl hl.1 (Nat.le_of_ble_eq_true rfl) dX8_mark_5 ?_
  refine lv_if_eq (tgt := 21) hx hb dX8_mark_8 (by decide) (fun c8 => ?_) (fun c8 => ?_)
  · replace h := if_t c8 h
    refine lv_iconst (v := -1) hx hb dX8_mark_21 (by decide) ?_
    cases h
    exact W.iret hx hb hr (fun t ht _ => ⟨rfl, by rw [ht]; exact hP, hS.F ht⟩) hS.2.2 dX8_mark_22
  · replace h := if_f c8 h
    refine lv_iload_n hx hb dX8_mark_11 rfl (lv_at hl 2 rfl) ?_
    refine lv_if_le (tgt := 21) hx hb dX8_mark_12 (by decide) (fun c12 => ?_) (fun c12 => ?_)
    · replace h := if_t c12 h
      refine lv_iconst (v := -1) hx hb dX8_mark_21 (by decide) ?_
      cases h
      exact W.iret hx hb hr (fun t ht _ => ⟨rfl, by rw [ht]; exact hP, hS.F ht⟩) hS.2.2 dX8_mark_22
    · replace h := if_f c12 h
      refine lv_iload_n hx hb dX8_mark_15 rfl (lv_at hl 2 rfl) ?_
      refine lv_bipush (v := 6) hx hb dX8_mark_16 (by decide) ?_
      refine lv_icmp_lt (tgt := 23) hx hb dX8_mark_18 (by decide) (fun c18 => ?_) (fun c18 => ?_)
      · replace h := if_t c18 h
        refine lv_aload_n hx hb dX8_mark_23 rfl (lv_at hl 0 rfl) ?_
        refine rg_G_village hx hb hT hown hK hP w_188 dX8_mark_24 ?_
        refine lv_iload_n hx hb dX8_mark_27 rfl (lv_at hl 1 rfl) ?_
        refine lv_iload_n hx hb dX8_mark_28 rfl (lv_at hl 2 rfl) ?_
        obtain ⟨r29, hc29, h⟩ := Option.bind_eq_some_iff.mp h
        refine rcV (As := [.int a1, .int a2]) (rest := []) ⟨hx, hb, hml, hown, hts⟩ (c_X7_isOf l X gi gl ga vS vF sN sF a1 a2 hc29) ⟨w_366, w_367, w_368, w_53, w_369⟩ hd_X7_isOf rfl rfl ⟨(Nat.le_of_ble_eq_true rfl), (Nat.le_of_ble_eq_true rfl)⟩ ⟨Nat.zero_le _, Nat.zero_le _⟩ gPre_blind (va_recv hK hP (ci := 3) rfl (cG_v (by decide : 0 < 4))) (gPre_call hP hK hN hZ hS) rfl rfl hl.1 (Nat.le_of_ble_eq_true rfl) dX8_mark_29 ?_
        refine lv_if_ne (tgt := 41) hx hb dX8_mark_32 (by decide) (fun c32 => ?_) (fun c32 => ?_)
        · replace h := if_f c32 h
          refine lv_iload_n hx hb dX8_mark_41 rfl (lv_at hl 2 rfl) ?_
          by_cases q42_0 : a2 = (1 : Int32)
          · replace h := if_t q42_0 h
            refine lv_tableIn (tgt := 72) (off := 30) hx hb dX8_mark_42 (by rw [q42_0]; decide) (by rw [q42_0]; decide) (by rw [q42_0]; rfl) (by decide) ?_
            refine lv_aload_n hx hb dX8_mark_72 rfl (lv_at hl 0 rfl) ?_
            refine rg_G_village hx hb hT hown hK hP w_188 dX8_mark_73 ?_
            refine lv_iload_n hx hb dX8_mark_76 rfl (lv_at hl 1 rfl) ?_
            obtain ⟨r77, hc77, h⟩ := Option.bind_eq_some_iff.mp h
            refine rcV (As := [.int a1]) (rest := []) ⟨hx, hb, hml, hown, hts⟩ (c_X7_isStuck l X gi gl ga vS vF sN sF a1 hc77) ⟨w_375, w_353, w_354, w_53, w_355⟩ hd_X7_isStuck rfl rfl ⟨(Nat.le_of_ble_eq_true rfl), (Nat.le_of_ble_eq_true rfl)⟩ ⟨Nat.zero_le _, Nat.zero_le _⟩ gPre_blind (va_recv hK hP (ci := 3) rfl (cG_v (by decide : 0 < 4))) (gPre_call hP hK hN hZ hS) rfl rfl hl.1 (Nat.le_of_ble_eq_true rfl) dX8_mark_77 ?_
            refine lv_if_eq (tgt := 100) hx hb dX8_mark_80 (by decide) (fun c80 => ?_) (fun c80 => ?_)
            · replace h := if_t c80 h
              refine lv_iconst (v := 0) hx hb dX8_mark_100 (by decide) ?_
              cases h
              exact W.iret hx hb hr (fun t ht _ => ⟨rfl, by rw [ht]; exact hP, hS.F ht⟩) hS.2.2 dX8_mark_101
            · replace h := if_f c80 h
              refine lv_aload_n hx hb dX8_mark_83 rfl (lv_at hl 0 rfl) ?_
              refine rg_G_village hx hb hT hown hK hP w_188 dX8_mark_84 ?_
              refine rg_V_hands (q := (0)) hx hb hT hown hK hP (by decide : 0 < 4) w_103 dX8_mark_87 ?_
              refine lv_iload_n hx hb dX8_mark_90 rfl (lv_at hl 1 rfl) ?_
              obtain ⟨hi91, h⟩ := gd_e h
              refine ra_v5 (q := (0)) hx hb hK hP (by decide : 0 < 4) (ib_in hi91) dX8_mark_91 ?_
              refine lv_iconst (v := 1) hx hb dX8_mark_92 (by decide) ?_
              refine lv_icmp_ne (tgt := 100) hx hb dX8_mark_93 (by decide) (fun c93 => ?_) (fun c93 => ?_)
              · replace h := if_f c93 h
                refine lv_iconst (v := 0) hx hb dX8_mark_100 (by decide) ?_
                cases h
                exact W.iret hx hb hr (fun t ht _ => ⟨rfl, by rw [ht]; exact hP, hS.F ht⟩) hS.2.2 dX8_mark_101
              · replace h := if_t c93 h
                refine lv_iconst (v := 1) hx hb dX8_mark_96 (by decide) ?_
                refine lv_goto (tgt := 101) hx hb dX8_mark_97 (by decide) ?_
                cases h
                exact W.iret hx hb hr (fun t ht _ => ⟨rfl, by rw [ht]; exact hP, hS.F ht⟩) hS.2.2 dX8_mark_101
          replace h := if_f q42_0 h
          by_cases q42_1 : a2 = (2 : Int32)
          · replace h := if_t q42_1 h
            refine lv_tableIn (tgt := 102) (off := 60) hx hb dX8_mark_42 (by rw [q42_1]; decide) (by rw [q42_1]; decide) (by rw [q42_1]; rfl) (by decide) ?_
            refine lv_iconst (v := 0) hx hb dX8_mark_102 (by decide) ?_
            refine lv_aload_n hx hb dX8_mark_103 rfl (lv_at hl 0 rfl) ?_
            refine rg_G_village hx hb hT hown hK hP w_188 dX8_mark_104 ?_
            refine rg_V_tastes (q := (0)) hx hb hT hown hK hP (by decide : 0 < 4) w_96 dX8_mark_107 ?_
            refine lv_iload_n hx hb dX8_mark_110 rfl (lv_at hl 1 rfl) ?_
            obtain ⟨hi111, h⟩ := gd_e h
            refine ra_v1 (q := (0)) hx hb hK hP (by decide : 0 < 4) (ib_in hi111) dX8_mark_111 ?_
            refine lv_iconst (v := 1) hx hb dX8_mark_112 (by decide) ?_
            refine lv_iadd hx hb dX8_mark_113 ?_
            refine lv_aload_n hx hb dX8_mark_114 rfl (lv_at hl 0 rfl) ?_
            refine rg_G_village hx hb hT hown hK hP w_188 dX8_mark_115 ?_
            refine lv_iload_n hx hb dX8_mark_118 rfl (lv_at hl 1 rfl) ?_
            obtain ⟨r119, hc119, h⟩ := Option.bind_eq_some_iff.mp h
            refine rcV (As := [.int a1]) (rest := [.int ((vF (0) 1 a1.toNatClampNeg) + (1 : Int32)), .int (0 : Int32)]) ⟨hx, hb, hml, hown, hts⟩ (c_X7_sight l X gi gl ga vS vF sN sF a1 hc119) ⟨w_376, w_377, w_378, w_53, w_379⟩ hd_X7_sight rfl rfl ⟨(Nat.le_of_ble_eq_true rfl), (Nat.le_of_ble_eq_true rfl)⟩ ⟨Nat.zero_le _, Nat.zero_le _⟩ gPre_blind (va_recv hK hP (ci := 3) rfl (cG_v (by decide : 0 < 4))) (gPre_call hP hK hN hZ hS) rfl rfl hl.1 (Nat.le_of_ble_eq_true rfl) dX8_mark_119 ?_
            refine lv_isub hx hb dX8_mark_122 ?_
            refine va_mmax hx hb (hml.trans hl.1.symm) hown (hT _ w_394) (hT _ w_172) (hT _ w_57) (hT _ w_173) (Nat.le_of_ble_eq_true rfl) (Nat.le_of_ble_eq_true rfl) (Nat.zero_le _) (Nat.zero_le _) dX8_mark_123 ?_
            cases h
            exact W.iret hx hb hr (fun t ht _ => ⟨rfl, by rw [ht]; exact hP, hS.F ht⟩) hS.2.2 dX8_mark_126
          replace h := if_f q42_1 h
          by_cases q42_2 : a2 = (3 : Int32)
          · replace h := if_t q42_2 h
            refine lv_tableIn (tgt := 127) (off := 85) hx hb dX8_mark_42 (by rw [q42_2]; decide) (by rw [q42_2]; decide) (by rw [q42_2]; rfl) (by decide) ?_
            refine lv_aload_n hx hb dX8_mark_127 rfl (lv_at hl 0 rfl) ?_
            refine rg_G_village hx hb hT hown hK hP w_188 dX8_mark_128 ?_
            obtain ⟨r131, hc131, h⟩ := Option.bind_eq_some_iff.mp h
            refine rcV (As := []) (rest := []) ⟨hx, hb, hml, hown, hts⟩ (c_X7_hangersOnChildren l X gi gl ga vS vF sN sF hc131) ⟨w_395, w_396, w_397, w_53, w_398⟩ hd_X7_hangersOnChildren rfl rfl ⟨(Nat.le_of_ble_eq_true rfl), (Nat.le_of_ble_eq_true rfl)⟩ ⟨Nat.zero_le _, Nat.zero_le _⟩ gPre_blind (va_recv hK hP (ci := 3) rfl (cG_v (by decide : 0 < 4))) (gPre_call hP hK hN hZ hS) rfl rfl hl.1 (Nat.le_of_ble_eq_true rfl) dX8_mark_131 ?_
            cases h
            exact W.iret hx hb hr (fun t ht _ => ⟨rfl, by rw [ht]; exact hP, hS.F ht⟩) hS.2.2 dX8_mark_134
          replace h := if_f q42_2 h
          by_cases q42_3 : a2 = (4 : Int32)
          · replace h := if_t q42_3 h
            refine lv_tableIn (tgt := 135) (off := 93) hx hb dX8_mark_42 (by rw [q42_3]; decide) (by rw [q42_3]; decide) (by rw [q42_3]; rfl) (by decide) ?_
            refine lv_aload_n hx hb dX8_mark_135 rfl (lv_at hl 0 rfl) ?_
            refine rg_G_village hx hb hT hown hK hP w_188 dX8_mark_136 ?_
            obtain ⟨r139, hc139, h⟩ := Option.bind_eq_some_iff.mp h
            refine rcV (As := []) (rest := []) ⟨hx, hb, hml, hown, hts⟩ (c_X7_deepest l X gi gl ga vS vF sN sF hc139) ⟨w_403, w_382, w_383, w_53, w_384⟩ hd_X7_deepest rfl rfl ⟨(Nat.le_of_ble_eq_true rfl), (Nat.le_of_ble_eq_true rfl)⟩ ⟨Nat.zero_le _, Nat.zero_le _⟩ gPre_blind (va_recv hK hP (ci := 3) rfl (cG_v (by decide : 0 < 4))) (gPre_call hP hK hN hZ hS) rfl rfl hl.1 (Nat.le_of_ble_eq_true rfl) dX8_mark_139 ?_
            cases h
            exact W.iret hx hb hr (fun t ht _ => ⟨rfl, by rw [ht]; exact hP, hS.F ht⟩) hS.2.2 dX8_mark_142
          replace h := if_f q42_3 h
          refine lv_tableOut (tgt := 143) hx hb dX8_mark_42 (by have := tb_1_4 a2 q42_0 q42_1 q42_2 q42_3; exact this) (by decide) ?_
          refine lv_aload_n hx hb dX8_mark_143 rfl (lv_at hl 0 rfl) ?_
          refine rg_G_village hx hb hT hown hK hP w_188 dX8_mark_144 ?_
          refine lv_iload_n hx hb dX8_mark_147 rfl (lv_at hl 1 rfl) ?_
          obtain ⟨r148, hc148, h⟩ := Option.bind_eq_some_iff.mp h
          refine rcS (As := [.ref (xAV X (0) 0), .int a1]) (rest := []) ⟨hx, hb, hml, hown, hts⟩ (c_X0_fedBy l X gi gl ga vS vF sN sF a1 hc148) ⟨w_404, w_405, w_54, w_406⟩ hd_X0_fedBy rfl rfl ⟨(Nat.le_of_ble_eq_true rfl), (Nat.le_of_ble_eq_true rfl)⟩ ⟨Nat.zero_le _, Nat.zero_le _⟩ gPre_blind (gPre_call hP hK hN hZ hS) rfl rfl hl.1 (Nat.le_of_ble_eq_true rfl) dX8_mark_148 ?_
          refine lv_iconst (v := 1) hx hb dX8_mark_151 (by decide) ?_
          refine lv_iload_n hx hb dX8_mark_152 rfl (lv_at hl 1 rfl) ?_
          refine lv_ishl hx hb dX8_mark_153 ?_
          refine lv_iconst (v := -1) hx hb dX8_mark_154 (by decide) ?_
          refine lv_ixor hx hb dX8_mark_155 ?_
          refine lv_iand hx hb dX8_mark_156 ?_
          obtain ⟨r157, hc157, h⟩ := Option.bind_eq_some_iff.mp h
          refine rcS (As := [.int (r148 &&& (((1 : Int32) <<< (a1 &&& 31)) ^^^ (-1 : Int32)))]) (rest := []) ⟨hx, hb, hml, hown, hts⟩ (c_J6_bitCount_0f7a4 l (r148 &&& (((1 : Int32) <<< (a1 &&& 31)) ^^^ (-1 : Int32))) hc157) ⟨w_416, w_357, w_63, w_358⟩ hd_J6_bitCount_0f7a4 rfl rfl ⟨(Nat.le_of_ble_eq_true rfl), (Nat.le_of_ble_eq_true rfl)⟩ ⟨Nat.zero_le _, Nat.zero_le _⟩ (fun _ _ _ _ h => h) (fun _ _ _ => trivial) rfl rfl hl.1 (Nat.le_of_ble_eq_true rfl) dX8_mark_157 ?_
          cases h
          exact W.iret hx hb hr (fun t ht _ => ⟨rfl, by rw [ht]; exact hP, hS.F ht⟩) hS.2.2 dX8_mark_160
        · replace h := if_t c32 h
          refine lv_aload_n hx hb dX8_mark_35 rfl (lv_at hl 0 rfl) ?_
          refine lv_iconst (v := 3) hx hb dX8_mark_36 (by decide) ?_
          obtain ⟨r37, gi_37, ga_37, hc37, h⟩ := bd3_e h
          refine wcV (As := [.int (3 : Int32)]) (rest := []) ⟨hx, hb, hml, hown, hts⟩ (c_X8_found l X gi gl ga vS vF sN sF (3 : Int32) hc37) ⟨w_227, w_229, w_0, w_52, w_230⟩ hd_X8_found rfl rfl ⟨(Nat.le_of_ble_eq_true rfl), (Nat.le_of_ble_eq_true rfl)⟩ ⟨Nat.zero_le _, Nat.zero_le _⟩ gPre_blind (va_recv hK hP (ci := 4) rfl cG_b0) (gPre_call hP hK hN hZ hS) hS (fun _ h => h) rfl rfl hl.1 (Nat.le_of_ble_eq_true rfl) dX8_mark_37 (fun H locs hP _ hS => ?_)
          have hP : va_P X.1 vwCl (cG X gi_37 gl ga_37 vS vF sN sF) H := hP
          refine W.eq (g2 := F0 m 40 ls [.int r37]) rfl ?_
          cases h
          exact W.iret hx hb hr (fun t ht _ => ⟨rfl, by rw [ht]; exact hP, hS.F ht⟩) hS.2.2 dX8_mark_40
      · replace h := if_f c18 h
        refine lv_iconst (v := -1) hx hb dX8_mark_21 (by decide) ?_
        cases h
        exact W.iret hx hb hr (fun t ht _ => ⟨rfl, by rw [ht]; exact hP, hS.F ht⟩) hS.2.2 dX8_mark_22
set_option maxRecDepth 100000 in
set_option maxHeartbeats 4000000 in
theorem c_X8_taste (l : Launch) (X : gX) (gi : Nat → Int32) (gl : Nat → Int64) (ga : Nat → Nat → Int32) (vS : Nat → Nat → Int32) (vF : Nat → Nat → Nat → Int32) (sN : Nat → Int32) (sF : Nat → Nat → Int32) (a1 : Int32) (a2 : Int32) {o0 : Int32} {o_vF : Nat → Nat → Nat → Int32} (h : X8_taste vS a1 a2 vF = some (o0, o_vF)) : Met l yX8_taste (Cond.code yX8_taste cX8_taste 4 (some .int) :: gT) { frames := 1, cells := 0, slots := 0, locals := 21 } (va_Pc [.ref (xA X 0), .int a1, .int a2] (gPre X gi gl ga vS vF sN sF)) (wQ (some (.int o0)) (fun H => va_P X.1 vwCl (cG X gi gl ga vS o_vF sN sF) H) (gA X)) 0 0 (gA X) := by
  refine Met.ofW (cc := cX8_taste) (maxL := 4) (ret := (some .int)) (by decide) rfl ?_
  intro p e s m args below meth c s₁ B hml hv
  obtain ⟨rfl, hP, hK, hN, hZ⟩ := hv
  have hx := B.exec
  have hb := B.bytes
  have hr := B.returns
  have hts := atoms_spec (ws := (Cond.code yX8_taste cX8_taste 4 (some .int) :: gT)) B.pre
  have hT : ∀ w ∈ gT, w.before _ s = true := fun w hw => hts w (List.mem_cons_of_mem _ hw)
  have hown : s.vm.findClass RX8 = some m.cls := findClass_of_methodNamed B.named
  have hlocks := B.notSynchronized
  have hS : va_S (gA X) s.heap s.heap [] := va_S.rf
  have hl := lv_entry ([.ref (xA X 0), .int a1, .int a2]) (n := 4) (Nat.le_of_ble_eq_true rfl)
  rw [lg_entry_eq]
  generalize (lg_sl ([.ref (xA X 0), .int a1, .int a2]) ++ List.replicate (4 - (lg_sl ([.ref (xA X 0), .int a1, .int a2])).length) Slot.unset).toArray = ls at hl ⊢
  have hl : lv_has ls 4 [(0, .ref (xA X 0)), (1, .int a1), (2, .int a2)] := hl
  rw [X8_taste] at h
  refine lv_aload_n hx hb dX8_taste_0 rfl (lv_at hl 0 rfl) ?_
  refine rg_G_village hx hb hT hown hK hP w_188 dX8_taste_1 ?_
  refine lv_iload_n hx hb dX8_taste_4 rfl (lv_at hl 1 rfl) ?_
  obtain ⟨r5, hc5, h⟩ := Option.bind_eq_some_iff.mp h
  refine rcV (As := [.int a1]) (rest := []) ⟨hx, hb, hml, hown, hts⟩ (c_X7_isPerson l X gi gl ga vS vF sN sF a1 hc5) ⟨w_328, w_329, w_330, w_53, w_331⟩ hd_X7_isPerson rfl rfl ⟨(Nat.le_of_ble_eq_true rfl), (Nat.le_of_ble_eq_true rfl)⟩ ⟨Nat.zero_le _, Nat.zero_le _⟩ gPre_blind (va_recv hK hP (ci := 3) rfl (cG_v (by decide : 0 < 4))) (gPre_call hP hK hN hZ hS) rfl rfl hl.1 (Nat.le_of_ble_eq_true rfl) dX8_taste_5 ?_
  refine lv_if_eq (tgt := 22) hx hb dX8_taste_8 (by decide) (fun c8 => ?_) (fun c8 => ?_)
  · replace h := if_t c8 h
    refine lv_iconst (v := -1) hx hb dX8_taste_22 (by decide) ?_
    cases h
    exact W.iret hx hb hr (fun t ht _ => ⟨rfl, by rw [ht]; exact hP, hS.F ht⟩) hS.2.2 dX8_taste_23
  · replace h := if_f c8 h
    refine lv_iload_n hx hb dX8_taste_11 rfl (lv_at hl 2 rfl) ?_
    refine lv_iconst (v := 1) hx hb dX8_taste_12 (by decide) ?_
    refine lv_icmp_lt (tgt := 22) hx hb dX8_taste_13 (by decide) (fun c13 => ?_) (fun c13 => ?_)
    · replace h := if_t c13 h
      refine lv_iconst (v := -1) hx hb dX8_taste_22 (by decide) ?_
      cases h
      exact W.iret hx hb hr (fun t ht _ => ⟨rfl, by rw [ht]; exact hP, hS.F ht⟩) hS.2.2 dX8_taste_23
    · replace h := if_f c13 h
      refine lv_iload_n hx hb dX8_taste_16 rfl (lv_at hl 2 rfl) ?_
      refine lv_bipush (v := 8) hx hb dX8_taste_17 (by decide) ?_
      refine lv_icmp_le (tgt := 24) hx hb dX8_taste_19 (by decide) (fun c19 => ?_) (fun c19 => ?_)
      · replace h := if_t c19 h
        refine lv_aload_n hx hb dX8_taste_24 rfl (lv_at hl 0 rfl) ?_
        refine rg_G_village hx hb hT hown hK hP w_188 dX8_taste_25 ?_
        refine rg_V_tastes (q := (0)) hx hb hT hown hK hP (by decide : 0 < 4) w_96 dX8_taste_28 ?_
        refine lv_iload_n hx hb dX8_taste_31 rfl (lv_at hl 1 rfl) ?_
        obtain ⟨hi32, h⟩ := gd_e h
        refine ra_v1 (q := (0)) hx hb hK hP (by decide : 0 < 4) (ib_in hi32) dX8_taste_32 ?_
        refine lv_istore_n (lv' := [(3, .int (vF (0) 1 a1.toNatClampNeg)), (0, .ref (xA X 0)), (1, .int a1), (2, .int a2)]) hx hb dX8_taste_33 rfl hl (by decide) rfl (fun ls hl => ?_)
        refine lv_aload_n hx hb dX8_taste_34 rfl (lv_at hl 1 rfl) ?_
        refine rg_G_village hx hb hT hown hK hP w_188 dX8_taste_35 ?_
        refine rg_V_tastes (q := (0)) hx hb hT hown hK hP (by decide : 0 < 4) w_96 dX8_taste_38 ?_
        refine lv_iload_n hx hb dX8_taste_41 rfl (lv_at hl 2 rfl) ?_
        refine lv_iload_n hx hb dX8_taste_42 rfl (lv_at hl 3 rfl) ?_
        obtain ⟨hi43, h⟩ := gd_e h
        refine rs_v1 (q := (0)) hx hb hK hP hN hS (by decide : 0 < 4) (ib_in hi43) dX8_taste_43 (fun H locs hP hS => ?_)
        generalize evF_43 : u2 vF (0) 1 (upd (vF (0) 1) a1.toNatClampNeg a2) = vF_43 at hP
        replace h := lt_g h evF_43
        refine lv_iload_n hx hb dX8_taste_44 rfl (lv_at hl 0 rfl) ?_
        cases h
        exact W.iret hx hb hr (fun t ht _ => ⟨rfl, by rw [ht]; exact hP, hS.F ht⟩) hS.2.2 dX8_taste_45
      · replace h := if_f c19 h
        refine lv_iconst (v := -1) hx hb dX8_taste_22 (by decide) ?_
        cases h
        exact W.iret hx hb hr (fun t ht _ => ⟨rfl, by rw [ht]; exact hP, hS.F ht⟩) hS.2.2 dX8_taste_23
set_option maxRecDepth 100000 in
set_option maxHeartbeats 4000000 in
theorem c_X8_touch (l : Launch) (X : gX) (gi : Nat → Int32) (gl : Nat → Int64) (ga : Nat → Nat → Int32) (vS : Nat → Nat → Int32) (vF : Nat → Nat → Nat → Int32) (sN : Nat → Int32) (sF : Nat → Nat → Int32) (a1 : Int32) (a2 : Int32) (a3 : Int32) {o0 : Int32} {o_vS : Nat → Nat → Int32} {o_vF : Nat → Nat → Nat → Int32} (h : X8_touch a1 a2 a3 vS vF = some (o0, o_vS, o_vF)) : Met l yX8_touch (Cond.code yX8_touch cX8_touch 4 (some .int) :: gT) { frames := 4, cells := 0, slots := 0, locals := 89 } (va_Pc [.ref (xA X 0), .int a1, .int a2, .int a3] (gPre X gi gl ga vS vF sN sF)) (wQ (some (.int o0)) (fun H => va_P X.1 vwCl (cG X gi gl ga o_vS o_vF sN sF) H) (gA X)) 0 0 (gA X) := by
  refine Met.ofW (cc := cX8_touch) (maxL := 4) (ret := (some .int)) (by decide) rfl ?_
  intro p e s m args below meth c s₁ B hml hv
  obtain ⟨rfl, hP, hK, hN, hZ⟩ := hv
  have hx := B.exec
  have hb := B.bytes
  have hr := B.returns
  have hts := atoms_spec (ws := (Cond.code yX8_touch cX8_touch 4 (some .int) :: gT)) B.pre
  have hT : ∀ w ∈ gT, w.before _ s = true := fun w hw => hts w (List.mem_cons_of_mem _ hw)
  have hown : s.vm.findClass RX8 = some m.cls := findClass_of_methodNamed B.named
  have hlocks := B.notSynchronized
  have hS : va_S (gA X) s.heap s.heap [] := va_S.rf
  have hl := lv_entry ([.ref (xA X 0), .int a1, .int a2, .int a3]) (n := 4) (Nat.le_of_ble_eq_true rfl)
  rw [lg_entry_eq]
  generalize (lg_sl ([.ref (xA X 0), .int a1, .int a2, .int a3]) ++ List.replicate (4 - (lg_sl ([.ref (xA X 0), .int a1, .int a2, .int a3])).length) Slot.unset).toArray = ls at hl ⊢
  have hl : lv_has ls 4 [(0, .ref (xA X 0)), (1, .int a1), (2, .int a2), (3, .int a3)] := hl
  have hL20 : ∀ (v1 : Int32) (v2 : Int32) (v3 : Int32) (vS : Nat → Nat → Int32) (vF : Nat → Nat → Nat → Int32) (H : Heap) (locs : List Loc) (ls : Array Slot), lv_has ls 4 [(0, .ref (xA X 0)), (1, .int v1), (2, .int v2), (3, .int v3)] → va_P X.1 vwCl (cG X gi gl ga vS vF sN sF) H → va_S (gA X) s.heap H locs → X8_touch_20 v1 v2 v3 vS vF = some (o0, o_vS, o_vF) → W p l e (headSpec (Cond.code yX8_touch cX8_touch 4 (some .int) :: gT) { frames := 4, cells := 0, slots := 0, locals := 89 }).room s m [.ref (xA X 0), .int a1, .int a2, .int a3].toArray below meth c H locs 0 0 (MQ below (wQ (some (.int o0)) (fun H => va_P X.1 vwCl (cG X gi gl ga o_vS o_vF sN sF) H) (gA X)) [.ref (xA X 0), .int a1, .int a2, .int a3].toArray s 0 0 (gA X)) (F0 m 20 ls []) := by
    intro v1 v2 v3 vS vF H locs ls hl hP hS h
    rw [X8_touch_20] at h
    refine lv_aload_n hx hb dX8_touch_20 rfl (lv_at hl 0 rfl) ?_
    refine rg_G_village hx hb hT hown hK hP w_188 dX8_touch_21 ?_
    refine lv_iload_n hx hb dX8_touch_24 rfl (lv_at hl 3 rfl) ?_
    obtain ⟨r25, hc25, h⟩ := Option.bind_eq_some_iff.mp h
    refine rcV (As := [.int v3]) (rest := []) ⟨hx, hb, hml, hown, hts⟩ (c_X7_isHold l X gi gl ga vS vF sN sF v3 hc25) ⟨w_425, w_426, w_427, w_53, w_428⟩ hd_X7_isHold rfl rfl ⟨(Nat.le_of_ble_eq_true rfl), (Nat.le_of_ble_eq_true rfl)⟩ ⟨Nat.zero_le _, Nat.zero_le _⟩ gPre_blind (va_recv hK hP (ci := 3) rfl (cG_v (by decide : 0 < 4))) (gPre_call hP hK hN hZ hS) rfl rfl hl.1 (Nat.le_of_ble_eq_true rfl) dX8_touch_25 ?_
    refine lv_if_eq (tgt := 36) hx hb dX8_touch_28 (by decide) (fun c28 => ?_) (fun c28 => ?_)
    · replace h := if_t c28 h
      refine lv_iconst (v := -1) hx hb dX8_touch_36 (by decide) ?_
      cases h
      exact W.iret hx hb hr (fun t ht _ => ⟨rfl, by rw [ht]; exact hP, hS.F ht⟩) hS.2.2 dX8_touch_37
    · replace h := if_f c28 h
      refine lv_iload_n hx hb dX8_touch_31 rfl (lv_at hl 1 rfl) ?_
      refine lv_iload_n hx hb dX8_touch_32 rfl (lv_at hl 3 rfl) ?_
      refine lv_icmp_ne (tgt := 38) hx hb dX8_touch_33 (by decide) (fun c33 => ?_) (fun c33 => ?_)
      · replace h := if_f c33 h
        refine lv_aload_n hx hb dX8_touch_38 rfl (lv_at hl 0 rfl) ?_
        refine rg_G_village hx hb hT hown hK hP w_188 dX8_touch_39 ?_
        refine lv_iload_n hx hb dX8_touch_42 rfl (lv_at hl 1 rfl) ?_
        obtain ⟨r43, hc43, h⟩ := Option.bind_eq_some_iff.mp h
        refine rcV (As := [.int v1]) (rest := []) ⟨hx, hb, hml, hown, hts⟩ (c_X7_isStuck l X gi gl ga vS vF sN sF v1 hc43) ⟨w_375, w_353, w_354, w_53, w_355⟩ hd_X7_isStuck rfl rfl ⟨(Nat.le_of_ble_eq_true rfl), (Nat.le_of_ble_eq_true rfl)⟩ ⟨Nat.zero_le _, Nat.zero_le _⟩ gPre_blind (va_recv hK hP (ci := 3) rfl (cG_v (by decide : 0 < 4))) (gPre_call hP hK hN hZ hS) rfl rfl hl.1 (Nat.le_of_ble_eq_true rfl) dX8_touch_43 ?_
        refine lv_if_ne (tgt := 60) hx hb dX8_touch_46 (by decide) (fun c46 => ?_) (fun c46 => ?_)
        · replace h := if_f c46 h
          refine lv_bipush (v := -4) hx hb dX8_touch_60 (by decide) ?_
          cases h
          exact W.iret hx hb hr (fun t ht _ => ⟨rfl, by rw [ht]; exact hP, hS.F ht⟩) hS.2.2 dX8_touch_62
        · replace h := if_t c46 h
          refine lv_aload_n hx hb dX8_touch_49 rfl (lv_at hl 0 rfl) ?_
          refine rg_G_village hx hb hT hown hK hP w_188 dX8_touch_50 ?_
          refine lv_iload_n hx hb dX8_touch_53 rfl (lv_at hl 3 rfl) ?_
          obtain ⟨r54, hc54, h⟩ := Option.bind_eq_some_iff.mp h
          refine rcV (As := [.int v3]) (rest := []) ⟨hx, hb, hml, hown, hts⟩ (c_X7_isSticky l X gi gl ga vS vF sN sF v3 hc54) ⟨w_429, w_430, w_431, w_53, w_432⟩ hd_X7_isSticky rfl rfl ⟨(Nat.le_of_ble_eq_true rfl), (Nat.le_of_ble_eq_true rfl)⟩ ⟨Nat.zero_le _, Nat.zero_le _⟩ gPre_blind (va_recv hK hP (ci := 3) rfl (cG_v (by decide : 0 < 4))) (gPre_call hP hK hN hZ hS) rfl rfl hl.1 (Nat.le_of_ble_eq_true rfl) dX8_touch_54 ?_
          refine lv_if_ne (tgt := 63) hx hb dX8_touch_57 (by decide) (fun c57 => ?_) (fun c57 => ?_)
          · replace h := if_f c57 h
            refine lv_aload_n hx hb dX8_touch_63 rfl (lv_at hl 0 rfl) ?_
            refine rg_G_village hx hb hT hown hK hP w_188 dX8_touch_64 ?_
            obtain ⟨r67, hc67, h⟩ := Option.bind_eq_some_iff.mp h
            refine rcV (As := []) (rest := []) ⟨hx, hb, hml, hown, hts⟩ (c_X7_isFull l X gi gl ga vS vF sN sF hc67) ⟨w_433, w_434, w_435, w_53, w_436⟩ hd_X7_isFull rfl rfl ⟨(Nat.le_of_ble_eq_true rfl), (Nat.le_of_ble_eq_true rfl)⟩ ⟨Nat.zero_le _, Nat.zero_le _⟩ gPre_blind (va_recv hK hP (ci := 3) rfl (cG_v (by decide : 0 < 4))) (gPre_call hP hK hN hZ hS) rfl rfl hl.1 (Nat.le_of_ble_eq_true rfl) dX8_touch_67 ?_
            refine lv_if_eq (tgt := 76) hx hb dX8_touch_70 (by decide) (fun c70 => ?_) (fun c70 => ?_)
            · replace h := if_t c70 h
              refine lv_aload_n hx hb dX8_touch_76 rfl (lv_at hl 0 rfl) ?_
              refine rg_G_village hx hb hT hown hK hP w_188 dX8_touch_77 ?_
              refine lv_iload_n hx hb dX8_touch_80 rfl (lv_at hl 1 rfl) ?_
              refine lv_iload_n hx hb dX8_touch_81 rfl (lv_at hl 2 rfl) ?_
              obtain ⟨r82, hc82, h⟩ := Option.bind_eq_some_iff.mp h
              refine rcV (As := [.int v1, .int v2]) (rest := []) ⟨hx, hb, hml, hown, hts⟩ (c_X7_sticksBy l X gi gl ga vS vF sN sF v1 v2 hc82) ⟨w_437, w_438, w_439, w_53, w_440⟩ hd_X7_sticksBy rfl rfl ⟨(Nat.le_of_ble_eq_true rfl), (Nat.le_of_ble_eq_true rfl)⟩ ⟨Nat.zero_le _, Nat.zero_le _⟩ gPre_blind (va_recv hK hP (ci := 3) rfl (cG_v (by decide : 0 < 4))) (gPre_call hP hK hN hZ hS) rfl rfl hl.1 (Nat.le_of_ble_eq_true rfl) dX8_touch_82 ?_
              refine lv_if_ne (tgt := 90) hx hb dX8_touch_85 (by decide) (fun c85 => ?_) (fun c85 => ?_)
              · replace h := if_f c85 h
                refine lv_aload_n hx hb dX8_touch_90 rfl (lv_at hl 0 rfl) ?_
                refine rg_G_village hx hb hT hown hK hP w_188 dX8_touch_91 ?_
                refine lv_iconst (v := 0) hx hb dX8_touch_94 (by decide) ?_
                refine lv_iload_n hx hb dX8_touch_95 rfl (lv_at hl 1 rfl) ?_
                refine lv_iload_n hx hb dX8_touch_96 rfl (lv_at hl 2 rfl) ?_
                refine lv_iload_n hx hb dX8_touch_97 rfl (lv_at hl 3 rfl) ?_
                obtain ⟨vS_98, vF_98, hc98, h⟩ := bd2_e h
                refine wcV (As := [.int (0 : Int32), .int v1, .int v2, .int v3]) (rest := []) ⟨hx, hb, hml, hown, hts⟩ (c_X7_doDeed l X gi gl ga vS vF sN sF (0 : Int32) v1 v2 v3 hc98) ⟨w_441, w_442, w_443, w_53, w_444⟩ hd_X7_doDeed rfl rfl ⟨(Nat.le_of_ble_eq_true rfl), (Nat.le_of_ble_eq_true rfl)⟩ ⟨Nat.zero_le _, Nat.zero_le _⟩ gPre_blind (va_recv hK hP (ci := 3) rfl (cG_v (by decide : 0 < 4))) (gPre_call hP hK hN hZ hS) hS (fun _ h => h) rfl rfl hl.1 (Nat.le_of_ble_eq_true rfl) dX8_touch_98 (fun H locs hP _ hS => ?_)
                have hP : va_P X.1 vwCl (cG X gi gl ga vS_98 vF_98 sN sF) H := hP
                refine W.eq (g2 := F0 m 101 ls []) rfl ?_
                refine lv_iconst (v := 1) hx hb dX8_touch_101 (by decide) ?_
                cases h
                exact W.iret hx hb hr (fun t ht _ => ⟨rfl, by rw [ht]; exact hP, hS.F ht⟩) hS.2.2 dX8_touch_102
              · replace h := if_t c85 h
                refine lv_iconst (v := 0) hx hb dX8_touch_88 (by decide) ?_
                cases h
                exact W.iret hx hb hr (fun t ht _ => ⟨rfl, by rw [ht]; exact hP, hS.F ht⟩) hS.2.2 dX8_touch_89
            · replace h := if_f c70 h
              refine lv_bipush (v := -2) hx hb dX8_touch_73 (by decide) ?_
              cases h
              exact W.iret hx hb hr (fun t ht _ => ⟨rfl, by rw [ht]; exact hP, hS.F ht⟩) hS.2.2 dX8_touch_75
          · replace h := if_t c57 h
            refine lv_bipush (v := -4) hx hb dX8_touch_60 (by decide) ?_
            cases h
            exact W.iret hx hb hr (fun t ht _ => ⟨rfl, by rw [ht]; exact hP, hS.F ht⟩) hS.2.2 dX8_touch_62
      · replace h := if_t c33 h
        refine lv_iconst (v := -1) hx hb dX8_touch_36 (by decide) ?_
        cases h
        exact W.iret hx hb hr (fun t ht _ => ⟨rfl, by rw [ht]; exact hP, hS.F ht⟩) hS.2.2 dX8_touch_37
  rw [X8_touch] at h
  refine lv_aload_n hx hb dX8_touch_0 rfl (lv_at hl 0 rfl) ?_
  refine rg_G_village hx hb hT hown hK hP w_188 dX8_touch_1 ?_
  refine lv_iload_n hx hb dX8_touch_4 rfl (lv_at hl 1 rfl) ?_
  obtain ⟨r5, hc5, h⟩ := Option.bind_eq_some_iff.mp h
  refine rcV (As := [.int a1]) (rest := []) ⟨hx, hb, hml, hown, hts⟩ (c_X7_isPerson l X gi gl ga vS vF sN sF a1 hc5) ⟨w_328, w_329, w_330, w_53, w_331⟩ hd_X7_isPerson rfl rfl ⟨(Nat.le_of_ble_eq_true rfl), (Nat.le_of_ble_eq_true rfl)⟩ ⟨Nat.zero_le _, Nat.zero_le _⟩ gPre_blind (va_recv hK hP (ci := 3) rfl (cG_v (by decide : 0 < 4))) (gPre_call hP hK hN hZ hS) rfl rfl hl.1 (Nat.le_of_ble_eq_true rfl) dX8_touch_5 ?_
  refine lv_if_eq (tgt := 36) hx hb dX8_touch_8 (by decide) (fun c8 => ?_) (fun c8 => ?_)
  · replace h := if_t c8 h
    refine lv_iconst (v := -1) hx hb dX8_touch_36 (by decide) ?_
    cases h
    exact W.iret hx hb hr (fun t ht _ => ⟨rfl, by rw [ht]; exact hP, hS.F ht⟩) hS.2.2 dX8_touch_37
  · replace h := if_f c8 h
    refine lv_iload_n hx hb dX8_touch_11 rfl (lv_at hl 2 rfl) ?_
    refine lv_if_eq (tgt := 20) hx hb dX8_touch_12 (by decide) (fun c12 => ?_) (fun c12 => ?_)
    · replace h := if_t c12 h
      exact hL20 a1 a2 a3 vS vF _ _ ls (lv_sub hl [0, 1, 2, 3] rfl) hP hS h
    · replace h := if_f c12 h
      refine lv_iload_n hx hb dX8_touch_15 rfl (lv_at hl 2 rfl) ?_
      refine lv_iconst (v := 1) hx hb dX8_touch_16 (by decide) ?_
      refine lv_icmp_ne (tgt := 36) hx hb dX8_touch_17 (by decide) (fun c17 => ?_) (fun c17 => ?_)
      · replace h := if_f c17 h
        refine lv_iconst (v := -1) hx hb dX8_touch_36 (by decide) ?_
        cases h
        exact W.iret hx hb hr (fun t ht _ => ⟨rfl, by rw [ht]; exact hP, hS.F ht⟩) hS.2.2 dX8_touch_37
      · replace h := if_t c17 h
        exact hL20 a1 a2 a3 vS vF _ _ ls (lv_sub hl [0, 1, 2, 3] rfl) hP hS h
set_option maxRecDepth 100000 in
set_option maxHeartbeats 4000000 in
theorem c_X8_laugh (l : Launch) (X : gX) (gi : Nat → Int32) (gl : Nat → Int64) (ga : Nat → Nat → Int32) (vS : Nat → Nat → Int32) (vF : Nat → Nat → Nat → Int32) (sN : Nat → Int32) (sF : Nat → Nat → Int32) (a1 : Int32) {o0 : Int32} {o_vS : Nat → Nat → Int32} {o_vF : Nat → Nat → Nat → Int32} (h : X8_laugh a1 vS vF = some (o0, o_vS, o_vF)) : Met l yX8_laugh (Cond.code yX8_laugh cX8_laugh 3 (some .int) :: gT) { frames := 5, cells := 0, slots := 0, locals := 110 } (va_Pc [.ref (xA X 0), .int a1] (gPre X gi gl ga vS vF sN sF)) (wQ (some (.int o0)) (fun H => va_P X.1 vwCl (cG X gi gl ga o_vS o_vF sN sF) H) (gA X)) 0 0 (gA X) := by
  refine Met.ofW (cc := cX8_laugh) (maxL := 3) (ret := (some .int)) (by decide) rfl ?_
  intro p e s m args below meth c s₁ B hml hv
  obtain ⟨rfl, hP, hK, hN, hZ⟩ := hv
  have hx := B.exec
  have hb := B.bytes
  have hr := B.returns
  have hts := atoms_spec (ws := (Cond.code yX8_laugh cX8_laugh 3 (some .int) :: gT)) B.pre
  have hT : ∀ w ∈ gT, w.before _ s = true := fun w hw => hts w (List.mem_cons_of_mem _ hw)
  have hown : s.vm.findClass RX8 = some m.cls := findClass_of_methodNamed B.named
  have hlocks := B.notSynchronized
  have hS : va_S (gA X) s.heap s.heap [] := va_S.rf
  have hl := lv_entry ([.ref (xA X 0), .int a1]) (n := 3) (Nat.le_of_ble_eq_true rfl)
  rw [lg_entry_eq]
  generalize (lg_sl ([.ref (xA X 0), .int a1]) ++ List.replicate (3 - (lg_sl ([.ref (xA X 0), .int a1])).length) Slot.unset).toArray = ls at hl ⊢
  have hl : lv_has ls 3 [(0, .ref (xA X 0)), (1, .int a1)] := hl
  rw [X8_laugh] at h
  refine lv_aload_n hx hb dX8_laugh_0 rfl (lv_at hl 0 rfl) ?_
  refine rg_G_village hx hb hT hown hK hP w_188 dX8_laugh_1 ?_
  refine lv_iload_n hx hb dX8_laugh_4 rfl (lv_at hl 1 rfl) ?_
  obtain ⟨r5, hc5, h⟩ := Option.bind_eq_some_iff.mp h
  refine rcV (As := [.int a1]) (rest := []) ⟨hx, hb, hml, hown, hts⟩ (c_X7_isPerson l X gi gl ga vS vF sN sF a1 hc5) ⟨w_328, w_329, w_330, w_53, w_331⟩ hd_X7_isPerson rfl rfl ⟨(Nat.le_of_ble_eq_true rfl), (Nat.le_of_ble_eq_true rfl)⟩ ⟨Nat.zero_le _, Nat.zero_le _⟩ gPre_blind (va_recv hK hP (ci := 3) rfl (cG_v (by decide : 0 < 4))) (gPre_call hP hK hN hZ hS) rfl rfl hl.1 (Nat.le_of_ble_eq_true rfl) dX8_laugh_5 ?_
  refine lv_if_ne (tgt := 13) hx hb dX8_laugh_8 (by decide) (fun c8 => ?_) (fun c8 => ?_)
  · replace h := if_f c8 h
    refine lv_aload_n hx hb dX8_laugh_13 rfl (lv_at hl 0 rfl) ?_
    refine rg_G_village hx hb hT hown hK hP w_188 dX8_laugh_14 ?_
    refine lv_iload_n hx hb dX8_laugh_17 rfl (lv_at hl 1 rfl) ?_
    obtain ⟨r18, hc18, h⟩ := Option.bind_eq_some_iff.mp h
    refine rcV (As := [.int a1]) (rest := []) ⟨hx, hb, hml, hown, hts⟩ (c_X7_isAmused l X gi gl ga vS vF sN sF a1 hc18) ⟨w_453, w_454, w_455, w_53, w_456⟩ hd_X7_isAmused rfl rfl ⟨(Nat.le_of_ble_eq_true rfl), (Nat.le_of_ble_eq_true rfl)⟩ ⟨Nat.zero_le _, Nat.zero_le _⟩ gPre_blind (va_recv hK hP (ci := 3) rfl (cG_v (by decide : 0 < 4))) (gPre_call hP hK hN hZ hS) rfl rfl hl.1 (Nat.le_of_ble_eq_true rfl) dX8_laugh_18 ?_
    refine lv_if_ne (tgt := 27) hx hb dX8_laugh_21 (by decide) (fun c21 => ?_) (fun c21 => ?_)
    · replace h := if_f c21 h
      refine lv_aload_n hx hb dX8_laugh_27 rfl (lv_at hl 0 rfl) ?_
      refine rg_G_village hx hb hT hown hK hP w_188 dX8_laugh_28 ?_
      obtain ⟨r31, hc31, h⟩ := Option.bind_eq_some_iff.mp h
      refine rcV (As := []) (rest := []) ⟨hx, hb, hml, hown, hts⟩ (c_X7_isFull l X gi gl ga vS vF sN sF hc31) ⟨w_433, w_434, w_435, w_53, w_436⟩ hd_X7_isFull rfl rfl ⟨(Nat.le_of_ble_eq_true rfl), (Nat.le_of_ble_eq_true rfl)⟩ ⟨Nat.zero_le _, Nat.zero_le _⟩ gPre_blind (va_recv hK hP (ci := 3) rfl (cG_v (by decide : 0 < 4))) (gPre_call hP hK hN hZ hS) rfl rfl hl.1 (Nat.le_of_ble_eq_true rfl) dX8_laugh_31 ?_
      refine lv_if_eq (tgt := 40) hx hb dX8_laugh_34 (by decide) (fun c34 => ?_) (fun c34 => ?_)
      · replace h := if_t c34 h
        refine lv_aload_n hx hb dX8_laugh_40 rfl (lv_at hl 0 rfl) ?_
        refine rg_G_village hx hb hT hown hK hP w_188 dX8_laugh_41 ?_
        obtain ⟨r44, hc44, h⟩ := Option.bind_eq_some_iff.mp h
        refine rcV (As := []) (rest := []) ⟨hx, hb, hml, hown, hts⟩ (c_X7_stuckCount l X gi gl ga vS vF sN sF hc44) ⟨w_467, w_387, w_388, w_53, w_389⟩ hd_X7_stuckCount rfl rfl ⟨(Nat.le_of_ble_eq_true rfl), (Nat.le_of_ble_eq_true rfl)⟩ ⟨Nat.zero_le _, Nat.zero_le _⟩ gPre_blind (va_recv hK hP (ci := 3) rfl (cG_v (by decide : 0 < 4))) (gPre_call hP hK hN hZ hS) rfl rfl hl.1 (Nat.le_of_ble_eq_true rfl) dX8_laugh_44 ?_
        refine lv_istore_n (lv' := [(2, .int r44), (0, .ref (xA X 0)), (1, .int a1)]) hx hb dX8_laugh_47 rfl hl (by decide) rfl (fun ls hl => ?_)
        refine lv_aload_n hx hb dX8_laugh_48 rfl (lv_at hl 1 rfl) ?_
        refine rg_G_village hx hb hT hown hK hP w_188 dX8_laugh_49 ?_
        refine lv_iconst (v := 1) hx hb dX8_laugh_52 (by decide) ?_
        refine lv_iload_n hx hb dX8_laugh_53 rfl (lv_at hl 2 rfl) ?_
        refine lv_iconst (v := 0) hx hb dX8_laugh_54 (by decide) ?_
        refine lv_iconst (v := 0) hx hb dX8_laugh_55 (by decide) ?_
        obtain ⟨vS_56, vF_56, hc56, h⟩ := bd2_e h
        refine wcV (As := [.int (1 : Int32), .int a1, .int (0 : Int32), .int (0 : Int32)]) (rest := []) ⟨hx, hb, hml, hown, hts⟩ (c_X7_doDeed l X gi gl ga vS vF sN sF (1 : Int32) a1 (0 : Int32) (0 : Int32) hc56) ⟨w_441, w_442, w_443, w_53, w_444⟩ hd_X7_doDeed rfl rfl ⟨(Nat.le_of_ble_eq_true rfl), (Nat.le_of_ble_eq_true rfl)⟩ ⟨Nat.zero_le _, Nat.zero_le _⟩ gPre_blind (va_recv hK hP (ci := 3) rfl (cG_v (by decide : 0 < 4))) (gPre_call hP hK hN hZ hS) hS (fun _ h => h) rfl rfl hl.1 (Nat.le_of_ble_eq_true rfl) dX8_laugh_56 (fun H locs hP _ hS => ?_)
        have hP : va_P X.1 vwCl (cG X gi gl ga vS_56 vF_56 sN sF) H := hP
        refine W.eq (g2 := F0 m 59 ls []) rfl ?_
        refine lv_iload_n hx hb dX8_laugh_59 rfl (lv_at hl 0 rfl) ?_
        cases h
        exact W.iret hx hb hr (fun t ht _ => ⟨rfl, by rw [ht]; exact hP, hS.F ht⟩) hS.2.2 dX8_laugh_60
      · replace h := if_f c34 h
        refine lv_bipush (v := -2) hx hb dX8_laugh_37 (by decide) ?_
        cases h
        exact W.iret hx hb hr (fun t ht _ => ⟨rfl, by rw [ht]; exact hP, hS.F ht⟩) hS.2.2 dX8_laugh_39
    · replace h := if_t c21 h
      refine lv_bipush (v := -4) hx hb dX8_laugh_24 (by decide) ?_
      cases h
      exact W.iret hx hb hr (fun t ht _ => ⟨rfl, by rw [ht]; exact hP, hS.F ht⟩) hS.2.2 dX8_laugh_26
  · replace h := if_t c8 h
    refine lv_iconst (v := -1) hx hb dX8_laugh_11 (by decide) ?_
    cases h
    exact W.iret hx hb hr (fun t ht _ => ⟨rfl, by rw [ht]; exact hP, hS.F ht⟩) hS.2.2 dX8_laugh_12
set_option maxRecDepth 100000 in
set_option maxHeartbeats 4000000 in
theorem c_X8_days (l : Launch) (X : gX) (gi : Nat → Int32) (gl : Nat → Int64) (ga : Nat → Nat → Int32) (vS : Nat → Nat → Int32) (vF : Nat → Nat → Nat → Int32) (sN : Nat → Int32) (sF : Nat → Nat → Int32) (a1 : Int32) {o0 : Int32} {o_vS : Nat → Nat → Int32} {o_vF : Nat → Nat → Nat → Int32} (h : X8_days a1 vS vF = some (o0, o_vS, o_vF)) : Met l yX8_days (Cond.code yX8_days cX8_days 2 (some .int) :: gT) { frames := 4, cells := 0, slots := 0, locals := 89 } (va_Pc [.ref (xA X 0), .int a1] (gPre X gi gl ga vS vF sN sF)) (wQ (some (.int o0)) (fun H => va_P X.1 vwCl (cG X gi gl ga o_vS o_vF sN sF) H) (gA X)) 0 0 (gA X) := by
  refine Met.ofW (cc := cX8_days) (maxL := 2) (ret := (some .int)) (by decide) rfl ?_
  intro p e s m args below meth c s₁ B hml hv
  obtain ⟨rfl, hP, hK, hN, hZ⟩ := hv
  have hx := B.exec
  have hb := B.bytes
  have hr := B.returns
  have hts := atoms_spec (ws := (Cond.code yX8_days cX8_days 2 (some .int) :: gT)) B.pre
  have hT : ∀ w ∈ gT, w.before _ s = true := fun w hw => hts w (List.mem_cons_of_mem _ hw)
  have hown : s.vm.findClass RX8 = some m.cls := findClass_of_methodNamed B.named
  have hlocks := B.notSynchronized
  have hS : va_S (gA X) s.heap s.heap [] := va_S.rf
  have hl := lv_entry ([.ref (xA X 0), .int a1]) (n := 2) (Nat.le_of_ble_eq_true rfl)
  rw [lg_entry_eq]
  generalize (lg_sl ([.ref (xA X 0), .int a1]) ++ List.replicate (2 - (lg_sl ([.ref (xA X 0), .int a1])).length) Slot.unset).toArray = ls at hl ⊢
  have hl : lv_has ls 2 [(0, .ref (xA X 0)), (1, .int a1)] := hl
  rw [X8_days] at h
  refine lv_iload_n hx hb dX8_days_0 rfl (lv_at hl 1 rfl) ?_
  refine lv_if_lt (tgt := 11) hx hb dX8_days_1 (by decide) (fun c1 => ?_) (fun c1 => ?_)
  · replace h := if_t c1 h
    refine lv_iconst (v := -1) hx hb dX8_days_11 (by decide) ?_
    cases h
    exact W.iret hx hb hr (fun t ht _ => ⟨rfl, by rw [ht]; exact hP, hS.F ht⟩) hS.2.2 dX8_days_12
  · replace h := if_f c1 h
    refine lv_iload_n hx hb dX8_days_4 rfl (lv_at hl 1 rfl) ?_
    refine lv_sipush (v := 400) hx hb dX8_days_5 (by decide) ?_
    refine lv_icmp_le (tgt := 13) hx hb dX8_days_8 (by decide) (fun c8 => ?_) (fun c8 => ?_)
    · replace h := if_t c8 h
      refine lv_aload_n hx hb dX8_days_13 rfl (lv_at hl 0 rfl) ?_
      refine rg_G_village hx hb hT hown hK hP w_188 dX8_days_14 ?_
      refine rg_V_people (q := (0)) hx hb hT hown hK hP (by decide : 0 < 4) w_87 dX8_days_17 ?_
      refine lv_if_ne (tgt := 26) hx hb dX8_days_20 (by decide) (fun c20 => ?_) (fun c20 => ?_)
      · replace h := if_f c20 h
        refine lv_aload_n hx hb dX8_days_26 rfl (lv_at hl 0 rfl) ?_
        refine rg_G_village hx hb hT hown hK hP w_188 dX8_days_27 ?_
        obtain ⟨r30, hc30, h⟩ := Option.bind_eq_some_iff.mp h
        refine rcV (As := []) (rest := []) ⟨hx, hb, hml, hown, hts⟩ (c_X7_isFull l X gi gl ga vS vF sN sF hc30) ⟨w_433, w_434, w_435, w_53, w_436⟩ hd_X7_isFull rfl rfl ⟨(Nat.le_of_ble_eq_true rfl), (Nat.le_of_ble_eq_true rfl)⟩ ⟨Nat.zero_le _, Nat.zero_le _⟩ gPre_blind (va_recv hK hP (ci := 3) rfl (cG_v (by decide : 0 < 4))) (gPre_call hP hK hN hZ hS) rfl rfl hl.1 (Nat.le_of_ble_eq_true rfl) dX8_days_30 ?_
        refine lv_if_ne (tgt := 51) hx hb dX8_days_33 (by decide) (fun c33 => ?_) (fun c33 => ?_)
        · replace h := if_f c33 h
          refine lv_bipush (v := -2) hx hb dX8_days_51 (by decide) ?_
          cases h
          exact W.iret hx hb hr (fun t ht _ => ⟨rfl, by rw [ht]; exact hP, hS.F ht⟩) hS.2.2 dX8_days_53
        · replace h := if_t c33 h
          refine lv_aload_n hx hb dX8_days_36 rfl (lv_at hl 0 rfl) ?_
          refine rg_G_village hx hb hT hown hK hP w_188 dX8_days_37 ?_
          refine rg_V_day (q := (0)) hx hb hT hown hK hP (by decide : 0 < 4) w_89 dX8_days_40 ?_
          refine lv_iload_n hx hb dX8_days_43 rfl (lv_at hl 1 rfl) ?_
          refine lv_iadd hx hb dX8_days_44 ?_
          refine lv_sipush (v := 9999) hx hb dX8_days_45 (by decide) ?_
          refine lv_icmp_le (tgt := 54) hx hb dX8_days_48 (by decide) (fun c48 => ?_) (fun c48 => ?_)
          · replace h := if_t c48 h
            refine lv_aload_n hx hb dX8_days_54 rfl (lv_at hl 0 rfl) ?_
            refine rg_G_village hx hb hT hown hK hP w_188 dX8_days_55 ?_
            refine lv_iconst (v := 2) hx hb dX8_days_58 (by decide) ?_
            refine lv_iload_n hx hb dX8_days_59 rfl (lv_at hl 1 rfl) ?_
            refine lv_iconst (v := 0) hx hb dX8_days_60 (by decide) ?_
            refine lv_iconst (v := 0) hx hb dX8_days_61 (by decide) ?_
            obtain ⟨vS_62, vF_62, hc62, h⟩ := bd2_e h
            refine wcV (As := [.int (2 : Int32), .int a1, .int (0 : Int32), .int (0 : Int32)]) (rest := []) ⟨hx, hb, hml, hown, hts⟩ (c_X7_doDeed l X gi gl ga vS vF sN sF (2 : Int32) a1 (0 : Int32) (0 : Int32) hc62) ⟨w_441, w_442, w_443, w_53, w_444⟩ hd_X7_doDeed rfl rfl ⟨(Nat.le_of_ble_eq_true rfl), (Nat.le_of_ble_eq_true rfl)⟩ ⟨Nat.zero_le _, Nat.zero_le _⟩ gPre_blind (va_recv hK hP (ci := 3) rfl (cG_v (by decide : 0 < 4))) (gPre_call hP hK hN hZ hS) hS (fun _ h => h) rfl rfl hl.1 (Nat.le_of_ble_eq_true rfl) dX8_days_62 (fun H locs hP _ hS => ?_)
            have hP : va_P X.1 vwCl (cG X gi gl ga vS_62 vF_62 sN sF) H := hP
            refine W.eq (g2 := F0 m 65 ls []) rfl ?_
            refine lv_aload_n hx hb dX8_days_65 rfl (lv_at hl 0 rfl) ?_
            refine rg_G_village hx hb hT hown hK hP w_188 dX8_days_66 ?_
            refine rg_V_day (q := (0)) hx hb hT hown hK hP (by decide : 0 < 4) w_89 dX8_days_69 ?_
            cases h
            exact W.iret hx hb hr (fun t ht _ => ⟨rfl, by rw [ht]; exact hP, hS.F ht⟩) hS.2.2 dX8_days_72
          · replace h := if_f c48 h
            refine lv_bipush (v := -2) hx hb dX8_days_51 (by decide) ?_
            cases h
            exact W.iret hx hb hr (fun t ht _ => ⟨rfl, by rw [ht]; exact hP, hS.F ht⟩) hS.2.2 dX8_days_53
      · replace h := if_t c20 h
        refine lv_bipush (v := -4) hx hb dX8_days_23 (by decide) ?_
        cases h
        exact W.iret hx hb hr (fun t ht _ => ⟨rfl, by rw [ht]; exact hP, hS.F ht⟩) hS.2.2 dX8_days_25
    · replace h := if_f c8 h
      refine lv_iconst (v := -1) hx hb dX8_days_11 (by decide) ?_
      cases h
      exact W.iret hx hb hr (fun t ht _ => ⟨rfl, by rw [ht]; exact hP, hS.F ht⟩) hS.2.2 dX8_days_12
