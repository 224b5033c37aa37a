set_option maxRecDepth 100000 in
set_option maxHeartbeats 4000000 in
theorem c_X9_remember (l : Launch) (X : gX) (mi : Nat → Int32) (ml : Nat → Int64) (ma : Nat → Nat → Int32) (mb : Nat → Nat → Int64) {o_mi : Nat → Int32} {o_ma : Nat → Nat → Int32} (h : X9_remember mi ma = some (o_mi, o_ma)) : Met l yX9_remember (Cond.code yX9_remember cX9_remember 2 none :: gT) { frames := 0, cells := 0, slots := 0, locals := 0 } (va_Pc [.ref (xB X 0)] (mPre X mi ml ma mb)) (wQ none (fun H => va_P X.1 vwCl (cM X o_mi ml o_ma mb) H) (mA X)) 0 0 (mA X) := by
  refine Met.ofW (cc := cX9_remember) (maxL := 2) (ret := none) (by decide) rfl ?_
  intro p e s m args below meth c s₁ B hml hv
  obtain ⟨rfl, hP, hK, hN⟩ := hv
  have hx := B.exec
  have hb := B.bytes
  have hr := B.returns
  have hts := atoms_spec (ws := (Cond.code yX9_remember cX9_remember 2 none :: gT)) B.pre
  have hT : ∀ w ∈ gT, w.before _ s = true := fun w hw => hts w (List.mem_cons_of_mem _ hw)
  have hown : s.vm.findClass RX9 = some m.cls := findClass_of_methodNamed B.named
  have hlocks := B.notSynchronized
  have hS : va_S (mA X) s.heap s.heap [] := va_S.rf
  have hl := lv_entry ([.ref (xB X 0)]) (n := 2) (Nat.le_of_ble_eq_true rfl)
  rw [lg_entry_eq]
  generalize (lg_sl ([.ref (xB X 0)]) ++ List.replicate (2 - (lg_sl ([.ref (xB X 0)])).length) Slot.unset).toArray = ls at hl ⊢
  have hl : lv_has ls 2 [(0, .ref (xB X 0))] := hl
  have hL2 : ∀ (n2 : Nat) (v1 : Int32) (mi : Nat → Int32) (ma : Nat → Nat → Int32) (H : Heap) (locs : List Loc) (ls : Array Slot), lv_has ls 2 [(0, .ref (xB X 0)), (1, .int v1)] → va_P X.1 vwCl (cM X mi ml ma mb) H → va_S (mA X) s.heap H locs → X9_remember_2 n2 v1 mi ma = some (o_mi, o_ma) → W p l e (headSpec (Cond.code yX9_remember cX9_remember 2 none :: gT) { frames := 0, cells := 0, slots := 0, locals := 0 }).room s m [.ref (xB X 0)].toArray below meth c H locs 0 0 (MQ below (wQ none (fun H => va_P X.1 vwCl (cM X o_mi ml o_ma mb) H) (mA X)) [.ref (xB X 0)].toArray s 0 0 (mA X)) (F0 m 2 ls []) := by
    intro n2
    induction n2 with
    | zero =>
      intro v1 mi ma H locs ls hl hP hS h
      rw [X9_remember_2] at h
      cases h
    | succ n2 ih2 =>
      intro v1 mi ma H locs ls hl hP hS h
      rw [X9_remember_2] at h
      refine lv_iload_n hx hb dX9_remember_2 rfl (lv_at hl 1 rfl) ?_
      refine lv_bipush (v := 7) hx hb dX9_remember_3 (by decide) ?_
      refine lv_icmp_ge (tgt := 74) hx hb dX9_remember_5 (by decide) (fun c5 => ?_) (fun c5 => ?_)
      · replace h := if_t c5 h
        refine lv_aload_n hx hb dX9_remember_74 rfl (lv_at hl 0 rfl) ?_
        refine rg_M_pastDay hx hb hT hown hK hP w_790 dX9_remember_75 ?_
        refine lv_aload_n hx hb dX9_remember_78 rfl (lv_at hl 0 rfl) ?_
        refine rg_M_deeds hx hb hT hown hK hP w_786 dX9_remember_79 ?_
        refine lv_aload_n hx hb dX9_remember_82 rfl (lv_at hl 0 rfl) ?_
        refine rg_M_day hx hb hT hown hK hP w_785 dX9_remember_83 ?_
        obtain ⟨hi86, h⟩ := gd_e h
        refine rs_m8 hx hb hK hP hN hS (ib_in hi86) dX9_remember_86 (fun H locs hP hS => ?_)
        generalize ema_86 : va_up ma 8 (upd (ma 8) (mi 2).toNatClampNeg (mi 1)) = ma_86 at hP
        replace h := lt_g h ema_86
        refine lv_aload_n hx hb dX9_remember_87 rfl (lv_at hl 0 rfl) ?_
        refine lv_dup hx hb dX9_remember_88 rfl ?_
        refine rg_M_deeds hx hb hT hown hK hP w_786 dX9_remember_89 ?_
        refine lv_iconst (v := 1) hx hb dX9_remember_92 (by decide) ?_
        refine lv_iadd hx hb dX9_remember_93 ?_
        refine rp_M_deeds hx hb hT hown hK hP hN hS w_786 dX9_remember_94 (fun H locs hP hS => ?_)
        generalize emi_94 : va_up mi 2 ((mi 2) + (1 : Int32)) = mi_94 at hP
        replace h := lt_g h emi_94
        cases h
        exact W.vret hx hb hr (fun t ht _ => ⟨rfl, by rw [ht]; exact hP, hS.F ht⟩) hS.2.2 dX9_remember_97
      · replace h := if_f c5 h
        refine lv_aload_n hx hb dX9_remember_8 rfl (lv_at hl 0 rfl) ?_
        refine rg_M_pastHangs hx hb hT hown hK hP w_787 dX9_remember_9 ?_
        refine lv_bipush (v := 7) hx hb dX9_remember_12 (by decide) ?_
        refine lv_aload_n hx hb dX9_remember_14 rfl (lv_at hl 0 rfl) ?_
        refine rg_M_deeds hx hb hT hown hK hP w_786 dX9_remember_15 ?_
        refine lv_imul hx hb dX9_remember_18 ?_
        refine lv_iload_n hx hb dX9_remember_19 rfl (lv_at hl 1 rfl) ?_
        refine lv_iadd hx hb dX9_remember_20 ?_
        refine lv_aload_n hx hb dX9_remember_21 rfl (lv_at hl 0 rfl) ?_
        refine rg_M_hangs hx hb hT hown hK hP w_782 dX9_remember_22 ?_
        refine lv_iload_n hx hb dX9_remember_25 rfl (lv_at hl 1 rfl) ?_
        obtain ⟨hi26, h⟩ := gd_e h
        refine ra_m2 hx hb hK hP (ib_in hi26) dX9_remember_26 ?_
        obtain ⟨hi27, h⟩ := gd_e h
        refine rs_m5 hx hb hK hP hN hS (ib_in hi27) dX9_remember_27 (fun H locs hP hS => ?_)
        generalize ema_27 : va_up ma 5 (upd (ma 5) (((7 : Int32) * (mi 2)) + v1).toNatClampNeg (ma 2 v1.toNatClampNeg)) = ma_27 at hP
        replace h := lt_g h ema_27
        refine lv_aload_n hx hb dX9_remember_28 rfl (lv_at hl 0 rfl) ?_
        refine rg_M_pastHand hx hb hT hown hK hP w_788 dX9_remember_29 ?_
        refine lv_bipush (v := 7) hx hb dX9_remember_32 (by decide) ?_
        refine lv_aload_n hx hb dX9_remember_34 rfl (lv_at hl 0 rfl) ?_
        refine rg_M_deeds hx hb hT hown hK hP w_786 dX9_remember_35 ?_
        refine lv_imul hx hb dX9_remember_38 ?_
        refine lv_iload_n hx hb dX9_remember_39 rfl (lv_at hl 1 rfl) ?_
        refine lv_iadd hx hb dX9_remember_40 ?_
        refine lv_aload_n hx hb dX9_remember_41 rfl (lv_at hl 0 rfl) ?_
        refine rg_M_hand hx hb hT hown hK hP w_783 dX9_remember_42 ?_
        refine lv_iload_n hx hb dX9_remember_45 rfl (lv_at hl 1 rfl) ?_
        obtain ⟨hi46, h⟩ := gd_e h
        refine ra_m3 hx hb hK hP (ib_in hi46) dX9_remember_46 ?_
        obtain ⟨hi47, h⟩ := gd_e h
        refine rs_m6 hx hb hK hP hN hS (ib_in hi47) dX9_remember_47 (fun H locs hP hS => ?_)
        generalize ema_47 : va_up ma_27 6 (upd (ma_27 6) (((7 : Int32) * (mi 2)) + v1).toNatClampNeg (ma_27 3 v1.toNatClampNeg)) = ma_47 at hP
        replace h := lt_g h ema_47
        refine lv_aload_n hx hb dX9_remember_48 rfl (lv_at hl 0 rfl) ?_
        refine rg_M_pastLaughed hx hb hT hown hK hP w_789 dX9_remember_49 ?_
        refine lv_bipush (v := 7) hx hb dX9_remember_52 (by decide) ?_
        refine lv_aload_n hx hb dX9_remember_54 rfl (lv_at hl 0 rfl) ?_
        refine rg_M_deeds hx hb hT hown hK hP w_786 dX9_remember_55 ?_
        refine lv_imul hx hb dX9_remember_58 ?_
        refine lv_iload_n hx hb dX9_remember_59 rfl (lv_at hl 1 rfl) ?_
        refine lv_iadd hx hb dX9_remember_60 ?_
        refine lv_aload_n hx hb dX9_remember_61 rfl (lv_at hl 0 rfl) ?_
        refine rg_M_laughed hx hb hT hown hK hP w_784 dX9_remember_62 ?_
        refine lv_iload_n hx hb dX9_remember_65 rfl (lv_at hl 1 rfl) ?_
        obtain ⟨hi66, h⟩ := gd_e h
        refine ra_m4 hx hb hK hP (ib_in hi66) dX9_remember_66 ?_
        obtain ⟨hi67, h⟩ := gd_e h
        refine rs_m7 hx hb hK hP hN hS (ib_in hi67) dX9_remember_67 (fun H locs hP hS => ?_)
        generalize ema_67 : va_up ma_47 7 (upd (ma_47 7) (((7 : Int32) * (mi 2)) + v1).toNatClampNeg (ma_47 4 v1.toNatClampNeg)) = ma_67 at hP
        replace h := lt_g h ema_67
        refine lv_iinc (v := (v1 + (1 : Int32))) (lv' := [(1, .int (v1 + (1 : Int32))), (0, .ref (xB X 0))]) hx hb dX9_remember_68 hl (k := 1) rfl rfl (by decide) rfl (fun ls hl => ?_)
        refine lv_goto (tgt := 2) hx hb dX9_remember_71 (by decide) ?_
        exact ih2 (v1 + (1 : Int32)) mi ma_67 _ _ ls (lv_sub hl [1, 0] rfl) hP hS h
  rw [X9_remember] at h
  refine lv_iconst (v := 0) hx hb dX9_remember_0 (by decide) ?_
  refine lv_istore_n (lv' := [(1, .int (0 : Int32)), (0, .ref (xB X 0))]) hx hb dX9_remember_1 rfl hl (by decide) rfl (fun ls hl => ?_)
  exact hL2 500 (0 : Int32) mi ma _ _ ls (lv_sub hl [1, 0] rfl) hP hS h
set_option maxRecDepth 100000 in
set_option maxHeartbeats 4000000 in
theorem c_X9_sticks (l : Launch) (X : gX) (mi : Nat → Int32) (ml : Nat → Int64) (ma : Nat → Nat → Int32) (mb : Nat → Nat → Int64) (a1 : Int32) (a2 : Int32) {o0 : Int32} (h : X9_sticks ma a1 a2 = some o0) : Met l yX9_sticks (Cond.code yX9_sticks cX9_sticks 3 (some .boolean) :: gT) { frames := 0, cells := 0, slots := 0, locals := 0 } (va_Pc [.ref (xB X 0), .int a1, .int a2] (mPre X mi ml ma mb)) (k2_QcV (.int o0)) 0 0 (fun _ => False) := by
  refine Met.ofW (cc := cX9_sticks) (maxL := 3) (ret := (some .boolean)) (by decide) rfl ?_
  intro p e s m args below meth c s₁ B hml hv
  obtain ⟨rfl, hP, hK, hN⟩ := hv
  have hx := B.exec
  have hb := B.bytes
  have hr := B.returns
  have hts := atoms_spec (ws := (Cond.code yX9_sticks cX9_sticks 3 (some .boolean) :: gT)) B.pre
  have hT : ∀ w ∈ gT, w.before _ s = true := fun w hw => hts w (List.mem_cons_of_mem _ hw)
  have hown : s.vm.findClass RX9 = some m.cls := findClass_of_methodNamed B.named
  have hlocks := B.notSynchronized
  have hS : va_S (mA X) s.heap s.heap [] := va_S.rf
  have hl := lv_entry ([.ref (xB X 0), .int a1, .int a2]) (n := 3) (Nat.le_of_ble_eq_true rfl)
  rw [lg_entry_eq]
  generalize (lg_sl ([.ref (xB X 0), .int a1, .int a2]) ++ List.replicate (3 - (lg_sl ([.ref (xB X 0), .int a1, .int a2])).length) Slot.unset).toArray = ls at hl ⊢
  have hl : lv_has ls 3 [(0, .ref (xB X 0)), (1, .int a1), (2, .int a2)] := hl
  rw [X9_sticks] at h
  refine lv_iload_n hx hb dX9_sticks_0 rfl (lv_at hl 2 rfl) ?_
  refine lv_iconst (v := 1) hx hb dX9_sticks_1 (by decide) ?_
  refine lv_icmp_eq (tgt := 25) hx hb dX9_sticks_2 (by decide) (fun c2 => ?_) (fun c2 => ?_)
  · replace h := if_t c2 h
    refine lv_iconst (v := 1) hx hb dX9_sticks_25 (by decide) ?_
    refine lv_goto (tgt := 30) hx hb dX9_sticks_26 (by decide) ?_
    cases h
    exact W.zret (ty := .boolean) hx hb hr rfl (fun t ht _ => ⟨rfl, ht⟩) (fun _ hq => by cases hq) dX9_sticks_30
  · replace h := if_f c2 h
    refine lv_aload_n hx hb dX9_sticks_5 rfl (lv_at hl 0 rfl) ?_
    refine rg_M_kind hx hb hT hown hK hP w_780 dX9_sticks_6 ?_
    refine lv_iload_n hx hb dX9_sticks_9 rfl (lv_at hl 1 rfl) ?_
    obtain ⟨hi10, h⟩ := gd_e h
    refine ra_m0 hx hb hK hP (ib_in hi10) dX9_sticks_10 ?_
    refine lv_iconst (v := 1) hx hb dX9_sticks_11 (by decide) ?_
    refine lv_icmp_eq (tgt := 29) hx hb dX9_sticks_12 (by decide) (fun c12 => ?_) (fun c12 => ?_)
    · replace h := if_t c12 h
      refine lv_iconst (v := 0) hx hb dX9_sticks_29 (by decide) ?_
      cases h
      exact W.zret (ty := .boolean) hx hb hr rfl (fun t ht _ => ⟨rfl, ht⟩) (fun _ hq => by cases hq) dX9_sticks_30
    · replace h := if_f c12 h
      refine lv_aload_n hx hb dX9_sticks_15 rfl (lv_at hl 0 rfl) ?_
      refine rg_M_kind hx hb hT hown hK hP w_780 dX9_sticks_16 ?_
      refine lv_iload_n hx hb dX9_sticks_19 rfl (lv_at hl 1 rfl) ?_
      obtain ⟨hi20, h⟩ := gd_e h
      refine ra_m0 hx hb hK hP (ib_in hi20) dX9_sticks_20 ?_
      refine lv_iconst (v := 5) hx hb dX9_sticks_21 (by decide) ?_
      refine lv_icmp_eq (tgt := 29) hx hb dX9_sticks_22 (by decide) (fun c22 => ?_) (fun c22 => ?_)
      · replace h := if_t c22 h
        refine lv_iconst (v := 0) hx hb dX9_sticks_29 (by decide) ?_
        cases h
        exact W.zret (ty := .boolean) hx hb hr rfl (fun t ht _ => ⟨rfl, ht⟩) (fun _ hq => by cases hq) dX9_sticks_30
      · replace h := if_f c22 h
        refine lv_iconst (v := 1) hx hb dX9_sticks_25 (by decide) ?_
        refine lv_goto (tgt := 30) hx hb dX9_sticks_26 (by decide) ?_
        cases h
        exact W.zret (ty := .boolean) hx hb hr rfl (fun t ht _ => ⟨rfl, ht⟩) (fun _ hq => by cases hq) dX9_sticks_30
set_option maxRecDepth 100000 in
set_option maxHeartbeats 4000000 in
theorem c_X9_touch (l : Launch) (X : gX) (mi : Nat → Int32) (ml : Nat → Int64) (ma : Nat → Nat → Int32) (mb : Nat → Nat → Int64) (a1 : Int32) (a2 : Int32) (a3 : Int32) {o0 : Int32} {o_mi : Nat → Int32} {o_ma : Nat → Nat → Int32} (h : X9_touch a1 a2 a3 mi ma = some (o0, o_mi, o_ma)) : Met l yX9_touch (Cond.code yX9_touch cX9_touch 4 (some .int) :: gT) { frames := 2, cells := 0, slots := 0, locals := 46 } (va_Pc [.ref (xB X 0), .int a1, .int a2, .int a3] (mPre X mi ml ma mb)) (wQ (some (.int o0)) (fun H => va_P X.1 vwCl (cM X o_mi ml o_ma mb) H) (mA X)) 0 0 (mA X) := by
  refine Met.ofW (cc := cX9_touch) (maxL := 4) (ret := (some .int)) (by decide) rfl ?_
  intro p e s m args below meth c s₁ B hml hv
  obtain ⟨rfl, hP, hK, hN⟩ := hv
  have hx := B.exec
  have hb := B.bytes
  have hr := B.returns
  have hts := atoms_spec (ws := (Cond.code yX9_touch cX9_touch 4 (some .int) :: gT)) B.pre
  have hT : ∀ w ∈ gT, w.before _ s = true := fun w hw => hts w (List.mem_cons_of_mem _ hw)
  have hown : s.vm.findClass RX9 = some m.cls := findClass_of_methodNamed B.named
  have hlocks := B.notSynchronized
  have hS : va_S (mA X) s.heap s.heap [] := va_S.rf
  have hl := lv_entry ([.ref (xB X 0), .int a1, .int a2, .int a3]) (n := 4) (Nat.le_of_ble_eq_true rfl)
  rw [lg_entry_eq]
  generalize (lg_sl ([.ref (xB X 0), .int a1, .int a2, .int a3]) ++ List.replicate (4 - (lg_sl ([.ref (xB X 0), .int a1, .int a2, .int a3])).length) Slot.unset).toArray = ls at hl ⊢
  have hl : lv_has ls 4 [(0, .ref (xB X 0)), (1, .int a1), (2, .int a2), (3, .int a3)] := hl
  have hL64 : ∀ (v1 : Int32) (v2 : Int32) (v3 : Int32) (mi : Nat → Int32) (ma : Nat → Nat → Int32) (H : Heap) (locs : List Loc) (ls : Array Slot), lv_has ls 4 [(0, .ref (xB X 0)), (1, .int v1), (2, .int v2), (3, .int v3)] → va_P X.1 vwCl (cM X mi ml ma mb) H → va_S (mA X) s.heap H locs → X9_touch_64 v1 v2 v3 mi ma = some (o0, o_mi, o_ma) → W p l e (headSpec (Cond.code yX9_touch cX9_touch 4 (some .int) :: gT) { frames := 2, cells := 0, slots := 0, locals := 46 }).room s m [.ref (xB X 0), .int a1, .int a2, .int a3].toArray below meth c H locs 0 0 (MQ below (wQ (some (.int o0)) (fun H => va_P X.1 vwCl (cM X o_mi ml o_ma mb) H) (mA X)) [.ref (xB X 0), .int a1, .int a2, .int a3].toArray s 0 0 (mA X)) (F0 m 64 ls []) := by
    intro v1 v2 v3 mi ma H locs ls hl hP hS h
    rw [X9_touch_64] at h
    refine lv_aload_n hx hb dX9_touch_64 rfl (lv_at hl 0 rfl) ?_
    refine rg_M_deeds hx hb hT hown hK hP w_786 dX9_touch_65 ?_
    refine lv_bipush (v := 60) hx hb dX9_touch_68 (by decide) ?_
    refine lv_icmp_ne (tgt := 76) hx hb dX9_touch_70 (by decide) (fun c70 => ?_) (fun c70 => ?_)
    · replace h := if_f c70 h
      refine lv_aload_n hx hb dX9_touch_76 rfl (lv_at hl 0 rfl) ?_
      refine lv_iload_n hx hb dX9_touch_77 rfl (lv_at hl 1 rfl) ?_
      refine lv_iload_n hx hb dX9_touch_78 rfl (lv_at hl 2 rfl) ?_
      obtain ⟨r79, hc79, h⟩ := Option.bind_eq_some_iff.mp h
      refine rcV (As := [.int v1, .int v2]) (rest := []) ⟨hx, hb, hml, hown, hts⟩ (c_X9_sticks l X mi ml ma mb v1 v2 hc79) ⟨w_1055, w_1057, w_31, w_58, w_1058⟩ hd_X9_sticks rfl rfl ⟨(Nat.le_of_ble_eq_true rfl), (Nat.le_of_ble_eq_true rfl)⟩ ⟨Nat.zero_le _, Nat.zero_le _⟩ mPre_blind (va_recv hK hP (ci := 5) rfl cM_o) (mPre_call hP hK hN) rfl rfl hl.1 (Nat.le_of_ble_eq_true rfl) dX9_touch_79 ?_
      refine lv_if_ne (tgt := 87) hx hb dX9_touch_82 (by decide) (fun c82 => ?_) (fun c82 => ?_)
      · replace h := if_f c82 h
        refine lv_aload_n hx hb dX9_touch_87 rfl (lv_at hl 0 rfl) ?_
        obtain ⟨mi_88, ma_88, hc88, h⟩ := bd2_e h
        refine wcV (As := []) (rest := []) ⟨hx, hb, hml, hown, hts⟩ (c_X9_remember l X mi ml ma mb hc88) ⟨w_1059, w_1061, w_32, w_58, w_1062⟩ hd_X9_remember rfl rfl ⟨(Nat.le_of_ble_eq_true rfl), (Nat.le_of_ble_eq_true rfl)⟩ ⟨Nat.zero_le _, Nat.zero_le _⟩ mPre_blind (va_recv hK hP (ci := 5) rfl cM_o) (mPre_call hP hK hN) hS (fun _ h => h) rfl rfl hl.1 (Nat.le_of_ble_eq_true rfl) dX9_touch_88 (fun H locs hP _ hS => ?_)
        have hP : va_P X.1 vwCl (cM X mi_88 ml ma_88 mb) H := hP
        refine W.eq (g2 := F0 m 91 ls []) rfl ?_
        refine lv_aload_n hx hb dX9_touch_91 rfl (lv_at hl 0 rfl) ?_
        refine rg_M_hangs hx hb hT hown hK hP w_782 dX9_touch_92 ?_
        refine lv_iload_n hx hb dX9_touch_95 rfl (lv_at hl 1 rfl) ?_
        refine lv_iload_n hx hb dX9_touch_96 rfl (lv_at hl 3 rfl) ?_
        obtain ⟨hi97, h⟩ := gd_e h
        refine rs_m2 hx hb hK hP hN hS (ib_in hi97) dX9_touch_97 (fun H locs hP hS => ?_)
        generalize ema_97 : va_up ma_88 2 (upd (ma_88 2) v1.toNatClampNeg v3) = ma_97 at hP
        replace h := lt_g h ema_97
        refine lv_aload_n hx hb dX9_touch_98 rfl (lv_at hl 0 rfl) ?_
        refine rg_M_hand hx hb hT hown hK hP w_783 dX9_touch_99 ?_
        refine lv_iload_n hx hb dX9_touch_102 rfl (lv_at hl 1 rfl) ?_
        refine lv_iload_n hx hb dX9_touch_103 rfl (lv_at hl 2 rfl) ?_
        obtain ⟨hi104, h⟩ := gd_e h
        refine rs_m3 hx hb hK hP hN hS (ib_in hi104) dX9_touch_104 (fun H locs hP hS => ?_)
        generalize ema_104 : va_up ma_97 3 (upd (ma_97 3) v1.toNatClampNeg v2) = ma_104 at hP
        replace h := lt_g h ema_104
        refine lv_iconst (v := 1) hx hb dX9_touch_105 (by decide) ?_
        cases h
        exact W.iret hx hb hr (fun t ht _ => ⟨rfl, by rw [ht]; exact hP, hS.F ht⟩) hS.2.2 dX9_touch_106
      · replace h := if_t c82 h
        refine lv_iconst (v := 0) hx hb dX9_touch_85 (by decide) ?_
        cases h
        exact W.iret hx hb hr (fun t ht _ => ⟨rfl, by rw [ht]; exact hP, hS.F ht⟩) hS.2.2 dX9_touch_86
    · replace h := if_t c70 h
      refine lv_bipush (v := -2) hx hb dX9_touch_73 (by decide) ?_
      cases h
      exact W.iret hx hb hr (fun t ht _ => ⟨rfl, by rw [ht]; exact hP, hS.F ht⟩) hS.2.2 dX9_touch_75
  have hL32 : ∀ (v1 : Int32) (v2 : Int32) (v3 : Int32) (mi : Nat → Int32) (ma : Nat → Nat → Int32) (H : Heap) (locs : List Loc) (ls : Array Slot), lv_has ls 4 [(0, .ref (xB X 0)), (1, .int v1), (2, .int v2), (3, .int v3)] → va_P X.1 vwCl (cM X mi ml ma mb) H → va_S (mA X) s.heap H locs → X9_touch_32 v1 v2 v3 mi ma = some (o0, o_mi, o_ma) → W p l e (headSpec (Cond.code yX9_touch cX9_touch 4 (some .int) :: gT) { frames := 2, cells := 0, slots := 0, locals := 46 }).room s m [.ref (xB X 0), .int a1, .int a2, .int a3].toArray below meth c H locs 0 0 (MQ below (wQ (some (.int o0)) (fun H => va_P X.1 vwCl (cM X o_mi ml o_ma mb) H) (mA X)) [.ref (xB X 0), .int a1, .int a2, .int a3].toArray s 0 0 (mA X)) (F0 m 32 ls []) := by
    intro v1 v2 v3 mi ma H locs ls hl hP hS h
    rw [X9_touch_32] at h
    refine lv_iload_n hx hb dX9_touch_32 rfl (lv_at hl 1 rfl) ?_
    refine lv_iload_n hx hb dX9_touch_33 rfl (lv_at hl 3 rfl) ?_
    refine lv_icmp_ne (tgt := 39) hx hb dX9_touch_34 (by decide) (fun c34 => ?_) (fun c34 => ?_)
    · replace h := if_f c34 h
      refine lv_aload_n hx hb dX9_touch_39 rfl (lv_at hl 0 rfl) ?_
      refine lv_iload_n hx hb dX9_touch_40 rfl (lv_at hl 1 rfl) ?_
      obtain ⟨r41, hc41, h⟩ := Option.bind_eq_some_iff.mp h
      refine rcV (As := [.int v1]) (rest := []) ⟨hx, hb, hml, hown, hts⟩ (c_X9_isStuck l X mi ml ma mb v1 hc41) ⟨w_1026, w_1028, w_27, w_58, w_1029⟩ hd_X9_isStuck rfl rfl ⟨(Nat.le_of_ble_eq_true rfl), (Nat.le_of_ble_eq_true rfl)⟩ ⟨Nat.zero_le _, Nat.zero_le _⟩ mPre_blind (va_recv hK hP (ci := 5) rfl cM_o) (mPre_call hP hK hN) rfl rfl hl.1 (Nat.le_of_ble_eq_true rfl) dX9_touch_41 ?_
      refine lv_if_ne (tgt := 61) hx hb dX9_touch_44 (by decide) (fun c44 => ?_) (fun c44 => ?_)
      · replace h := if_f c44 h
        refine lv_bipush (v := -4) hx hb dX9_touch_61 (by decide) ?_
        cases h
        exact W.iret hx hb hr (fun t ht _ => ⟨rfl, by rw [ht]; exact hP, hS.F ht⟩) hS.2.2 dX9_touch_63
      · replace h := if_t c44 h
        refine lv_iload_n hx hb dX9_touch_47 rfl (lv_at hl 3 rfl) ?_
        refine lv_bipush (v := 9) hx hb dX9_touch_48 (by decide) ?_
        refine lv_icmp_eq (tgt := 64) hx hb dX9_touch_50 (by decide) (fun c50 => ?_) (fun c50 => ?_)
        · replace h := if_t c50 h
          exact hL64 v1 v2 v3 mi ma _ _ ls (lv_sub hl [0, 1, 2, 3] rfl) hP hS h
        · replace h := if_f c50 h
          refine lv_aload_n hx hb dX9_touch_53 rfl (lv_at hl 0 rfl) ?_
          refine lv_iload_n hx hb dX9_touch_54 rfl (lv_at hl 3 rfl) ?_
          obtain ⟨r55, hc55, h⟩ := Option.bind_eq_some_iff.mp h
          refine rcV (As := [.int v3]) (rest := []) ⟨hx, hb, hml, hown, hts⟩ (c_X9_isStuck l X mi ml ma mb v3 hc55) ⟨w_1026, w_1028, w_27, w_58, w_1029⟩ hd_X9_isStuck rfl rfl ⟨(Nat.le_of_ble_eq_true rfl), (Nat.le_of_ble_eq_true rfl)⟩ ⟨Nat.zero_le _, Nat.zero_le _⟩ mPre_blind (va_recv hK hP (ci := 5) rfl cM_o) (mPre_call hP hK hN) rfl rfl hl.1 (Nat.le_of_ble_eq_true rfl) dX9_touch_55 ?_
          refine lv_if_ne (tgt := 64) hx hb dX9_touch_58 (by decide) (fun c58 => ?_) (fun c58 => ?_)
          · replace h := if_f c58 h
            exact hL64 v1 v2 v3 mi ma _ _ ls (lv_sub hl [0, 1, 2, 3] rfl) hP hS h
          · replace h := if_t c58 h
            refine lv_bipush (v := -4) hx hb dX9_touch_61 (by decide) ?_
            cases h
            exact W.iret hx hb hr (fun t ht _ => ⟨rfl, by rw [ht]; exact hP, hS.F ht⟩) hS.2.2 dX9_touch_63
    · replace h := if_t c34 h
      refine lv_iconst (v := -1) hx hb dX9_touch_37 (by decide) ?_
      cases h
      exact W.iret hx hb hr (fun t ht _ => ⟨rfl, by rw [ht]; exact hP, hS.F ht⟩) hS.2.2 dX9_touch_38
  rw [X9_touch] at h
  refine lv_aload_n hx hb dX9_touch_0 rfl (lv_at hl 0 rfl) ?_
  refine lv_iload_n hx hb dX9_touch_1 rfl (lv_at hl 1 rfl) ?_
  obtain ⟨r2, hc2, h⟩ := Option.bind_eq_some_iff.mp h
  refine rcV (As := [.int a1]) (rest := []) ⟨hx, hb, hml, hown, hts⟩ (c_X9_isOne l X mi ml ma mb a1 hc2) ⟨w_986, w_988, w_18, w_58, w_989⟩ hd_X9_isOne rfl rfl ⟨(Nat.le_of_ble_eq_true rfl), (Nat.le_of_ble_eq_true rfl)⟩ ⟨Nat.zero_le _, Nat.zero_le _⟩ mPre_blind (va_recv hK hP (ci := 5) rfl cM_o) (mPre_call hP hK hN) rfl rfl hl.1 (Nat.le_of_ble_eq_true rfl) dX9_touch_2 ?_
  refine lv_if_eq (tgt := 37) hx hb dX9_touch_5 (by decide) (fun c5 => ?_) (fun c5 => ?_)
  · replace h := if_t c5 h
    refine lv_iconst (v := -1) hx hb dX9_touch_37 (by decide) ?_
    cases h
    exact W.iret hx hb hr (fun t ht _ => ⟨rfl, by rw [ht]; exact hP, hS.F ht⟩) hS.2.2 dX9_touch_38
  · replace h := if_f c5 h
    refine lv_iload_n hx hb dX9_touch_8 rfl (lv_at hl 2 rfl) ?_
    refine lv_i2l hx hb dX9_touch_9 rfl ?_
    refine lv_lconst (v := 0) hx hb dX9_touch_10 (by decide) ?_
    refine lv_lconst (v := 1) hx hb dX9_touch_11 (by decide) ?_
    obtain ⟨r12, hc12, h⟩ := Option.bind_eq_some_iff.mp h
    refine rcS (As := [.long a2.toInt64, .long (0 : Int64), .long (1 : Int64)]) (rest := []) ⟨hx, hb, hml, hown, hts⟩ (c_X9_in l a2.toInt64 (0 : Int64) (1 : Int64) hc12) ⟨w_912, w_913, w_58, w_914⟩ hd_X9_in rfl rfl ⟨(Nat.le_of_ble_eq_true rfl), (Nat.le_of_ble_eq_true rfl)⟩ ⟨Nat.zero_le _, Nat.zero_le _⟩ (fun _ _ _ _ h => h) (fun _ _ _ => trivial) rfl rfl hl.1 (Nat.le_of_ble_eq_true rfl) dX9_touch_12 ?_
    refine lv_if_eq (tgt := 37) hx hb dX9_touch_15 (by decide) (fun c15 => ?_) (fun c15 => ?_)
    · replace h := if_t c15 h
      refine lv_iconst (v := -1) hx hb dX9_touch_37 (by decide) ?_
      cases h
      exact W.iret hx hb hr (fun t ht _ => ⟨rfl, by rw [ht]; exact hP, hS.F ht⟩) hS.2.2 dX9_touch_38
    · replace h := if_f c15 h
      refine lv_iload_n hx hb dX9_touch_18 rfl (lv_at hl 3 rfl) ?_
      refine lv_bipush (v := 9) hx hb dX9_touch_19 (by decide) ?_
      refine lv_icmp_eq (tgt := 32) hx hb dX9_touch_21 (by decide) (fun c21 => ?_) (fun c21 => ?_)
      · replace h := if_t c21 h
        exact hL32 a1 a2 a3 mi ma _ _ ls (lv_sub hl [0, 1, 2, 3] rfl) hP hS h
      · replace h := if_f c21 h
        refine lv_aload_n hx hb dX9_touch_24 rfl (lv_at hl 0 rfl) ?_
        refine lv_iload_n hx hb dX9_touch_25 rfl (lv_at hl 3 rfl) ?_
        obtain ⟨r26, hc26, h⟩ := Option.bind_eq_some_iff.mp h
        refine rcV (As := [.int a3]) (rest := []) ⟨hx, hb, hml, hown, hts⟩ (c_X9_isOne l X mi ml ma mb a3 hc26) ⟨w_986, w_988, w_18, w_58, w_989⟩ hd_X9_isOne rfl rfl ⟨(Nat.le_of_ble_eq_true rfl), (Nat.le_of_ble_eq_true rfl)⟩ ⟨Nat.zero_le _, Nat.zero_le _⟩ mPre_blind (va_recv hK hP (ci := 5) rfl cM_o) (mPre_call hP hK hN) rfl rfl hl.1 (Nat.le_of_ble_eq_true rfl) dX9_touch_26 ?_
        refine lv_if_eq (tgt := 37) hx hb dX9_touch_29 (by decide) (fun c29 => ?_) (fun c29 => ?_)
        · replace h := if_t c29 h
          refine lv_iconst (v := -1) hx hb dX9_touch_37 (by decide) ?_
          cases h
          exact W.iret hx hb hr (fun t ht _ => ⟨rfl, by rw [ht]; exact hP, hS.F ht⟩) hS.2.2 dX9_touch_38
        · replace h := if_f c29 h
          exact hL32 a1 a2 a3 mi ma _ _ ls (lv_sub hl [0, 1, 2, 3] rfl) hP hS h
set_option maxRecDepth 100000 in
set_option maxHeartbeats 4000000 in
theorem c_X9_mayLaugh (l : Launch) (X : gX) (mi : Nat → Int32) (ml : Nat → Int64) (ma : Nat → Nat → Int32) (mb : Nat → Nat → Int64) (a1 : Int32) {o0 : Int32} (h : X9_mayLaugh mi ma a1 = some o0) : Met l yX9_mayLaugh (Cond.code yX9_mayLaugh cX9_mayLaugh 3 (some .boolean) :: gT) { frames := 3, cells := 0, slots := 0, locals := 67 } (va_Pc [.ref (xB X 0), .int a1] (mPre X mi ml ma mb)) (k2_QcV (.int o0)) 0 0 (fun _ => False) := by
  refine Met.ofW (cc := cX9_mayLaugh) (maxL := 3) (ret := (some .boolean)) (by decide) rfl ?_
  intro p e s m args below meth c s₁ B hml hv
  obtain ⟨rfl, hP, hK, hN⟩ := hv
  have hx := B.exec
  have hb := B.bytes
  have hr := B.returns
  have hts := atoms_spec (ws := (Cond.code yX9_mayLaugh cX9_mayLaugh 3 (some .boolean) :: gT)) B.pre
  have hT : ∀ w ∈ gT, w.before _ s = true := fun w hw => hts w (List.mem_cons_of_mem _ hw)
  have hown : s.vm.findClass RX9 = some m.cls := findClass_of_methodNamed B.named
  have hlocks := B.notSynchronized
  have hS : va_S (mA X) s.heap s.heap [] := va_S.rf
  have hl := lv_entry ([.ref (xB X 0), .int a1]) (n := 3) (Nat.le_of_ble_eq_true rfl)
  rw [lg_entry_eq]
  generalize (lg_sl ([.ref (xB X 0), .int a1]) ++ List.replicate (3 - (lg_sl ([.ref (xB X 0), .int a1])).length) Slot.unset).toArray = ls at hl ⊢
  have hl : lv_has ls 3 [(0, .ref (xB X 0)), (1, .int a1)] := hl
  have hL53 : ∀ (v1 : Int32) (t0 : Int32) (ls : Array Slot), lv_has ls 3 [(0, .ref (xB X 0)), (1, .int v1)] → X9_mayLaugh_53 mi ma v1 t0 = some o0 → W p l e (headSpec (Cond.code yX9_mayLaugh cX9_mayLaugh 3 (some .boolean) :: gT) { frames := 3, cells := 0, slots := 0, locals := 67 }).room s m [.ref (xB X 0), .int a1].toArray below meth c s.heap [] 0 0 (MQ below (k2_QcV (.int o0)) [.ref (xB X 0), .int a1].toArray s 0 0 (fun _ => False)) (F0 m 53 ls [.int t0]) := by
    intro v1 t0 ls hl h
    rw [X9_mayLaugh_53] at h
    refine lv_istore_n (lv' := [(2, .int t0), (0, .ref (xB X 0)), (1, .int v1)]) hx hb dX9_mayLaugh_53 rfl hl (by decide) rfl (fun ls hl => ?_)
    refine lv_iload_n hx hb dX9_mayLaugh_54 rfl (lv_at hl 0 rfl) ?_
    refine lv_if_eq (tgt := 102) hx hb dX9_mayLaugh_55 (by decide) (fun c55 => ?_) (fun c55 => ?_)
    · replace h := if_t c55 h
      refine lv_iconst (v := 0) hx hb dX9_mayLaugh_102 (by decide) ?_
      cases h
      exact W.zret (ty := .boolean) hx hb hr rfl (fun t ht _ => ⟨rfl, ht⟩) (fun _ hq => by cases hq) dX9_mayLaugh_103
    · replace h := if_f c55 h
      refine lv_aload_n hx hb dX9_mayLaugh_58 rfl (lv_at hl 1 rfl) ?_
      refine lv_iload_n hx hb dX9_mayLaugh_59 rfl (lv_at hl 2 rfl) ?_
      refine lv_iconst (v := 2) hx hb dX9_mayLaugh_60 (by decide) ?_
      obtain ⟨r61, hc61, h⟩ := Option.bind_eq_some_iff.mp h
      refine rcV (As := [.int v1, .int (2 : Int32)]) (rest := []) ⟨hx, hb, hml, hown, hts⟩ (c_X9_isOf l X mi ml ma mb v1 (2 : Int32) hc61) ⟨w_1006, w_1008, w_22, w_58, w_1009⟩ hd_X9_isOf rfl rfl ⟨(Nat.le_of_ble_eq_true rfl), (Nat.le_of_ble_eq_true rfl)⟩ ⟨Nat.zero_le _, Nat.zero_le _⟩ mPre_blind (va_recv hK hP (ci := 5) rfl cM_o) (mPre_call hP hK hN) rfl rfl hl.1 (Nat.le_of_ble_eq_true rfl) dX9_mayLaugh_61 ?_
      refine lv_if_eq (tgt := 84) hx hb dX9_mayLaugh_64 (by decide) (fun c64 => ?_) (fun c64 => ?_)
      · replace h := if_t c64 h
        refine lv_aload_n hx hb dX9_mayLaugh_84 rfl (lv_at hl 1 rfl) ?_
        refine lv_iload_n hx hb dX9_mayLaugh_85 rfl (lv_at hl 2 rfl) ?_
        obtain ⟨r86, hc86, h⟩ := Option.bind_eq_some_iff.mp h
        refine rcV (As := [.int v1]) (rest := []) ⟨hx, hb, hml, hown, hts⟩ (c_X9_sightOf l X mi ml ma mb v1 hc86) ⟨w_1014, w_1016, w_24, w_58, w_1017⟩ hd_X9_sightOf rfl rfl ⟨(Nat.le_of_ble_eq_true rfl), (Nat.le_of_ble_eq_true rfl)⟩ ⟨Nat.zero_le _, Nat.zero_le _⟩ mPre_blind (va_recv hK hP (ci := 5) rfl cM_o) (mPre_call hP hK hN) rfl rfl hl.1 (Nat.le_of_ble_eq_true rfl) dX9_mayLaugh_86 ?_
        refine lv_aload_n hx hb dX9_mayLaugh_89 rfl (lv_at hl 1 rfl) ?_
        refine rg_M_taste hx hb hT hown hK hP w_781 dX9_mayLaugh_90 ?_
        refine lv_iload_n hx hb dX9_mayLaugh_93 rfl (lv_at hl 2 rfl) ?_
        obtain ⟨hi94, h⟩ := gd_e h
        refine ra_m1 hx hb hK hP (ib_in hi94) dX9_mayLaugh_94 ?_
        refine lv_icmp_lt (tgt := 102) hx hb dX9_mayLaugh_95 (by decide) (fun c95 => ?_) (fun c95 => ?_)
        · replace h := if_t c95 h
          refine lv_iconst (v := 0) hx hb dX9_mayLaugh_102 (by decide) ?_
          cases h
          exact W.zret (ty := .boolean) hx hb hr rfl (fun t ht _ => ⟨rfl, ht⟩) (fun _ hq => by cases hq) dX9_mayLaugh_103
        · replace h := if_f c95 h
          refine lv_iconst (v := 1) hx hb dX9_mayLaugh_98 (by decide) ?_
          refine lv_goto (tgt := 103) hx hb dX9_mayLaugh_99 (by decide) ?_
          cases h
          exact W.zret (ty := .boolean) hx hb hr rfl (fun t ht _ => ⟨rfl, ht⟩) (fun _ hq => by cases hq) dX9_mayLaugh_103
      · replace h := if_f c64 h
        refine lv_aload_n hx hb dX9_mayLaugh_67 rfl (lv_at hl 1 rfl) ?_
        refine lv_iload_n hx hb dX9_mayLaugh_68 rfl (lv_at hl 2 rfl) ?_
        obtain ⟨r69, hc69, h⟩ := Option.bind_eq_some_iff.mp h
        refine rcV (As := [.int v1]) (rest := []) ⟨hx, hb, hml, hown, hts⟩ (c_X9_sightOf l X mi ml ma mb v1 hc69) ⟨w_1014, w_1016, w_24, w_58, w_1017⟩ hd_X9_sightOf rfl rfl ⟨(Nat.le_of_ble_eq_true rfl), (Nat.le_of_ble_eq_true rfl)⟩ ⟨Nat.zero_le _, Nat.zero_le _⟩ mPre_blind (va_recv hK hP (ci := 5) rfl cM_o) (mPre_call hP hK hN) rfl rfl hl.1 (Nat.le_of_ble_eq_true rfl) dX9_mayLaugh_69 ?_
        refine lv_aload_n hx hb dX9_mayLaugh_72 rfl (lv_at hl 1 rfl) ?_
        refine rg_M_taste hx hb hT hown hK hP w_781 dX9_mayLaugh_73 ?_
        refine lv_iload_n hx hb dX9_mayLaugh_76 rfl (lv_at hl 2 rfl) ?_
        obtain ⟨hi77, h⟩ := gd_e h
        refine ra_m1 hx hb hK hP (ib_in hi77) dX9_mayLaugh_77 ?_
        refine lv_icmp_le (tgt := 102) hx hb dX9_mayLaugh_78 (by decide) (fun c78 => ?_) (fun c78 => ?_)
        · replace h := if_t c78 h
          refine lv_iconst (v := 0) hx hb dX9_mayLaugh_102 (by decide) ?_
          cases h
          exact W.zret (ty := .boolean) hx hb hr rfl (fun t ht _ => ⟨rfl, ht⟩) (fun _ hq => by cases hq) dX9_mayLaugh_103
        · replace h := if_f c78 h
          refine lv_goto (tgt := 98) hx hb dX9_mayLaugh_81 (by decide) ?_
          refine lv_iconst (v := 1) hx hb dX9_mayLaugh_98 (by decide) ?_
          refine lv_goto (tgt := 103) hx hb dX9_mayLaugh_99 (by decide) ?_
          cases h
          exact W.zret (ty := .boolean) hx hb hr rfl (fun t ht _ => ⟨rfl, ht⟩) (fun _ hq => by cases hq) dX9_mayLaugh_103
  rw [X9_mayLaugh] at h
  refine lv_aload_n hx hb dX9_mayLaugh_0 rfl (lv_at hl 0 rfl) ?_
  refine rg_M_kind hx hb hT hown hK hP w_780 dX9_mayLaugh_1 ?_
  refine lv_iload_n hx hb dX9_mayLaugh_4 rfl (lv_at hl 1 rfl) ?_
  obtain ⟨hi5, h⟩ := gd_e h
  refine ra_m0 hx hb hK hP (ib_in hi5) dX9_mayLaugh_5 ?_
  refine lv_iconst (v := 3) hx hb dX9_mayLaugh_6 (by decide) ?_
  refine lv_icmp_ne (tgt := 23) hx hb dX9_mayLaugh_7 (by decide) (fun c7 => ?_) (fun c7 => ?_)
  · replace h := if_f c7 h
    refine lv_aload_n hx hb dX9_mayLaugh_23 rfl (lv_at hl 0 rfl) ?_
    refine lv_iload_n hx hb dX9_mayLaugh_24 rfl (lv_at hl 1 rfl) ?_
    obtain ⟨r25, hc25, h⟩ := Option.bind_eq_some_iff.mp h
    refine rcV (As := [.int a1]) (rest := []) ⟨hx, hb, hml, hown, hts⟩ (c_X9_isStuck l X mi ml ma mb a1 hc25) ⟨w_1026, w_1028, w_27, w_58, w_1029⟩ hd_X9_isStuck rfl rfl ⟨(Nat.le_of_ble_eq_true rfl), (Nat.le_of_ble_eq_true rfl)⟩ ⟨Nat.zero_le _, Nat.zero_le _⟩ mPre_blind (va_recv hK hP (ci := 5) rfl cM_o) (mPre_call hP hK hN) rfl rfl hl.1 (Nat.le_of_ble_eq_true rfl) dX9_mayLaugh_25 ?_
    refine lv_if_ne (tgt := 52) hx hb dX9_mayLaugh_28 (by decide) (fun c28 => ?_) (fun c28 => ?_)
    · replace h := if_f c28 h
      refine lv_iconst (v := 0) hx hb dX9_mayLaugh_52 (by decide) ?_
      exact hL53 a1 (0 : Int32) ls (lv_sub hl [0, 1] rfl) h
    · replace h := if_t c28 h
      refine lv_aload_n hx hb dX9_mayLaugh_31 rfl (lv_at hl 0 rfl) ?_
      refine rg_M_day hx hb hT hown hK hP w_785 dX9_mayLaugh_32 ?_
      refine lv_aload_n hx hb dX9_mayLaugh_35 rfl (lv_at hl 0 rfl) ?_
      refine rg_M_laughed hx hb hT hown hK hP w_784 dX9_mayLaugh_36 ?_
      refine lv_iload_n hx hb dX9_mayLaugh_39 rfl (lv_at hl 1 rfl) ?_
      obtain ⟨hi40, h⟩ := gd_e h
      refine ra_m4 hx hb hK hP (ib_in hi40) dX9_mayLaugh_40 ?_
      refine lv_isub hx hb dX9_mayLaugh_41 ?_
      refine lv_sipush (v := 365) hx hb dX9_mayLaugh_42 (by decide) ?_
      refine lv_icmp_lt (tgt := 52) hx hb dX9_mayLaugh_45 (by decide) (fun c45 => ?_) (fun c45 => ?_)
      · replace h := if_t c45 h
        refine lv_iconst (v := 0) hx hb dX9_mayLaugh_52 (by decide) ?_
        exact hL53 a1 (0 : Int32) ls (lv_sub hl [0, 1] rfl) h
      · replace h := if_f c45 h
        refine lv_iconst (v := 1) hx hb dX9_mayLaugh_48 (by decide) ?_
        refine lv_goto (tgt := 53) hx hb dX9_mayLaugh_49 (by decide) ?_
        exact hL53 a1 (1 : Int32) ls (lv_sub hl [0, 1] rfl) h
  · replace h := if_t c7 h
    refine lv_aload_n hx hb dX9_mayLaugh_10 rfl (lv_at hl 0 rfl) ?_
    obtain ⟨r11, hc11, h⟩ := Option.bind_eq_some_iff.mp h
    refine rcV (As := []) (rest := []) ⟨hx, hb, hml, hown, hts⟩ (c_X9_stuckSet l X mi ml ma mb hc11) ⟨w_1022, w_1024, w_26, w_58, w_1025⟩ hd_X9_stuckSet rfl rfl ⟨(Nat.le_of_ble_eq_true rfl), (Nat.le_of_ble_eq_true rfl)⟩ ⟨Nat.zero_le _, Nat.zero_le _⟩ mPre_blind (va_recv hK hP (ci := 5) rfl cM_o) (mPre_call hP hK hN) rfl rfl hl.1 (Nat.le_of_ble_eq_true rfl) dX9_mayLaugh_11 ?_
    refine lv_if_eq (tgt := 21) hx hb dX9_mayLaugh_14 (by decide) (fun c14 => ?_) (fun c14 => ?_)
    · replace h := if_t c14 h
      refine lv_iconst (v := 0) hx hb dX9_mayLaugh_21 (by decide) ?_
      cases h
      exact W.zret (ty := .boolean) hx hb hr rfl (fun t ht _ => ⟨rfl, ht⟩) (fun _ hq => by cases hq) dX9_mayLaugh_22
    · replace h := if_f c14 h
      refine lv_iconst (v := 1) hx hb dX9_mayLaugh_17 (by decide) ?_
      refine lv_goto (tgt := 22) hx hb dX9_mayLaugh_18 (by decide) ?_
      cases h
      exact W.zret (ty := .boolean) hx hb hr rfl (fun t ht _ => ⟨rfl, ht⟩) (fun _ hq => by cases hq) dX9_mayLaugh_22
set_option maxRecDepth 100000 in
set_option maxHeartbeats 4000000 in
theorem c_X9_laugh (l : Launch) (X : gX) (mi : Nat → Int32) (ml : Nat → Int64) (ma : Nat → Nat → Int32) (mb : Nat → Nat → Int64) (a1 : Int32) {o0 : Int32} {o_mi : Nat → Int32} {o_ma : Nat → Nat → Int32} (h : X9_laugh a1 mi ma = some (o0, o_mi, o_ma)) : Met l yX9_laugh (Cond.code yX9_laugh cX9_laugh 4 (some .int) :: gT) { frames := 4, cells := 0, slots := 0, locals := 89 } (va_Pc [.ref (xB X 0), .int a1] (mPre X mi ml ma mb)) (wQ (some (.int o0)) (fun H => va_P X.1 vwCl (cM X o_mi ml o_ma mb) H) (mA X)) 0 0 (mA X) := by
  refine Met.ofW (cc := cX9_laugh) (maxL := 4) (ret := (some .int)) (by decide) rfl ?_
  intro p e s m args below meth c s₁ B hml hv
  obtain ⟨rfl, hP, hK, hN⟩ := hv
  have hx := B.exec
  have hb := B.bytes
  have hr := B.returns
  have hts := atoms_spec (ws := (Cond.code yX9_laugh cX9_laugh 4 (some .int) :: gT)) B.pre
  have hT : ∀ w ∈ gT, w.before _ s = true := fun w hw => hts w (List.mem_cons_of_mem _ hw)
  have hown : s.vm.findClass RX9 = some m.cls := findClass_of_methodNamed B.named
  have hlocks := B.notSynchronized
  have hS : va_S (mA X) s.heap s.heap [] := va_S.rf
  have hl := lv_entry ([.ref (xB X 0), .int a1]) (n := 4) (Nat.le_of_ble_eq_true rfl)
  rw [lg_entry_eq]
  generalize (lg_sl ([.ref (xB X 0), .int a1]) ++ List.replicate (4 - (lg_sl ([.ref (xB X 0), .int a1])).length) Slot.unset).toArray = ls at hl ⊢
  have hl : lv_has ls 4 [(0, .ref (xB X 0)), (1, .int a1)] := hl
  have hL47 : ∀ (n47 : Nat) (v1 : Int32) (v2 : Int32) (v3 : Int32) (mi : Nat → Int32) (ma : Nat → Nat → Int32) (H : Heap) (locs : List Loc) (ls : Array Slot), lv_has ls 4 [(0, .ref (xB X 0)), (1, .int v1), (2, .int v2), (3, .int v3)] → va_P X.1 vwCl (cM X mi ml ma mb) H → va_S (mA X) s.heap H locs → X9_laugh_47 n47 v1 v2 v3 mi ma = some (o0, o_mi, o_ma) → W p l e (headSpec (Cond.code yX9_laugh cX9_laugh 4 (some .int) :: gT) { frames := 4, cells := 0, slots := 0, locals := 89 }).room s m [.ref (xB X 0), .int a1].toArray below meth c H locs 0 0 (MQ below (wQ (some (.int o0)) (fun H => va_P X.1 vwCl (cM X o_mi ml o_ma mb) H) (mA X)) [.ref (xB X 0), .int a1].toArray s 0 0 (mA X)) (F0 m 47 ls []) := by
    intro n47
    induction n47 with
    | zero =>
      intro v1 v2 v3 mi ma H locs ls hl hP hS h
      rw [X9_laugh_47] at h
      cases h
    | succ n47 ih47 =>
      intro v1 v2 v3 mi ma H locs ls hl hP hS h
      rw [X9_laugh_47] at h
      refine lv_iload_n hx hb dX9_laugh_47 rfl (lv_at hl 3 rfl) ?_
      refine lv_aload_n hx hb dX9_laugh_48 rfl (lv_at hl 0 rfl) ?_
      refine rg_M_people hx hb hT hown hK hP w_779 dX9_laugh_49 ?_
      refine lv_icmp_ge (tgt := 77) hx hb dX9_laugh_52 (by decide) (fun c52 => ?_) (fun c52 => ?_)
      · replace h := if_t c52 h
        refine lv_aload_n hx hb dX9_laugh_77 rfl (lv_at hl 0 rfl) ?_
        refine rg_M_laughed hx hb hT hown hK hP w_784 dX9_laugh_78 ?_
        refine lv_iload_n hx hb dX9_laugh_81 rfl (lv_at hl 1 rfl) ?_
        refine lv_aload_n hx hb dX9_laugh_82 rfl (lv_at hl 0 rfl) ?_
        refine rg_M_day hx hb hT hown hK hP w_785 dX9_laugh_83 ?_
        obtain ⟨hi86, h⟩ := gd_e h
        refine rs_m4 hx hb hK hP hN hS (ib_in hi86) dX9_laugh_86 (fun H locs hP hS => ?_)
        generalize ema_86 : va_up ma 4 (upd (ma 4) v1.toNatClampNeg (mi 1)) = ma_86 at hP
        replace h := lt_g h ema_86
        refine lv_iload_n hx hb dX9_laugh_87 rfl (lv_at hl 2 rfl) ?_
        cases h
        exact W.iret hx hb hr (fun t ht _ => ⟨rfl, by rw [ht]; exact hP, hS.F ht⟩) hS.2.2 dX9_laugh_88
      · replace h := if_f c52 h
        refine lv_aload_n hx hb dX9_laugh_55 rfl (lv_at hl 0 rfl) ?_
        refine rg_M_hangs hx hb hT hown hK hP w_782 dX9_laugh_56 ?_
        refine lv_iload_n hx hb dX9_laugh_59 rfl (lv_at hl 3 rfl) ?_
        refine lv_bipush (v := -9) hx hb dX9_laugh_60 (by decide) ?_
        obtain ⟨hi62, h⟩ := gd_e h
        refine rs_m2 hx hb hK hP hN hS (ib_in hi62) dX9_laugh_62 (fun H locs hP hS => ?_)
        generalize ema_62 : va_up ma 2 (upd (ma 2) v3.toNatClampNeg (-9 : Int32)) = ma_62 at hP
        replace h := lt_g h ema_62
        refine lv_aload_n hx hb dX9_laugh_63 rfl (lv_at hl 0 rfl) ?_
        refine rg_M_hand hx hb hT hown hK hP w_783 dX9_laugh_64 ?_
        refine lv_iload_n hx hb dX9_laugh_67 rfl (lv_at hl 3 rfl) ?_
        refine lv_bipush (v := -9) hx hb dX9_laugh_68 (by decide) ?_
        obtain ⟨hi70, h⟩ := gd_e h
        refine rs_m3 hx hb hK hP hN hS (ib_in hi70) dX9_laugh_70 (fun H locs hP hS => ?_)
        generalize ema_70 : va_up ma_62 3 (upd (ma_62 3) v3.toNatClampNeg (-9 : Int32)) = ma_70 at hP
        replace h := lt_g h ema_70
        refine lv_iinc (v := (v3 + (1 : Int32))) (lv' := [(3, .int (v3 + (1 : Int32))), (0, .ref (xB X 0)), (1, .int v1), (2, .int v2)]) hx hb dX9_laugh_71 hl (k := 3) rfl rfl (by decide) rfl (fun ls hl => ?_)
        refine lv_goto (tgt := 47) hx hb dX9_laugh_74 (by decide) ?_
        exact ih47 v1 v2 (v3 + (1 : Int32)) mi ma_70 _ _ ls (lv_sub hl [1, 2, 3, 0] rfl) hP hS h
  rw [X9_laugh] at h
  refine lv_aload_n hx hb dX9_laugh_0 rfl (lv_at hl 0 rfl) ?_
  refine lv_iload_n hx hb dX9_laugh_1 rfl (lv_at hl 1 rfl) ?_
  obtain ⟨r2, hc2, h⟩ := Option.bind_eq_some_iff.mp h
  refine rcV (As := [.int a1]) (rest := []) ⟨hx, hb, hml, hown, hts⟩ (c_X9_isOne l X mi ml ma mb a1 hc2) ⟨w_986, w_988, w_18, w_58, w_989⟩ hd_X9_isOne rfl rfl ⟨(Nat.le_of_ble_eq_true rfl), (Nat.le_of_ble_eq_true rfl)⟩ ⟨Nat.zero_le _, Nat.zero_le _⟩ mPre_blind (va_recv hK hP (ci := 5) rfl cM_o) (mPre_call hP hK hN) rfl rfl hl.1 (Nat.le_of_ble_eq_true rfl) dX9_laugh_2 ?_
  refine lv_if_ne (tgt := 10) hx hb dX9_laugh_5 (by decide) (fun c5 => ?_) (fun c5 => ?_)
  · replace h := if_f c5 h
    refine lv_aload_n hx hb dX9_laugh_10 rfl (lv_at hl 0 rfl) ?_
    refine lv_iload_n hx hb dX9_laugh_11 rfl (lv_at hl 1 rfl) ?_
    obtain ⟨r12, hc12, h⟩ := Option.bind_eq_some_iff.mp h
    refine rcV (As := [.int a1]) (rest := []) ⟨hx, hb, hml, hown, hts⟩ (c_X9_mayLaugh l X mi ml ma mb a1 hc12) ⟨w_1067, w_1069, w_33, w_58, w_1070⟩ hd_X9_mayLaugh rfl rfl ⟨(Nat.le_of_ble_eq_true rfl), (Nat.le_of_ble_eq_true rfl)⟩ ⟨Nat.zero_le _, Nat.zero_le _⟩ mPre_blind (va_recv hK hP (ci := 5) rfl cM_o) (mPre_call hP hK hN) rfl rfl hl.1 (Nat.le_of_ble_eq_true rfl) dX9_laugh_12 ?_
    refine lv_if_ne (tgt := 21) hx hb dX9_laugh_15 (by decide) (fun c15 => ?_) (fun c15 => ?_)
    · replace h := if_f c15 h
      refine lv_aload_n hx hb dX9_laugh_21 rfl (lv_at hl 0 rfl) ?_
      refine rg_M_deeds hx hb hT hown hK hP w_786 dX9_laugh_22 ?_
      refine lv_bipush (v := 60) hx hb dX9_laugh_25 (by decide) ?_
      refine lv_icmp_ne (tgt := 33) hx hb dX9_laugh_27 (by decide) (fun c27 => ?_) (fun c27 => ?_)
      · replace h := if_f c27 h
        refine lv_aload_n hx hb dX9_laugh_33 rfl (lv_at hl 0 rfl) ?_
        obtain ⟨mi_34, ma_34, hc34, h⟩ := bd2_e h
        refine wcV (As := []) (rest := []) ⟨hx, hb, hml, hown, hts⟩ (c_X9_remember l X mi ml ma mb hc34) ⟨w_1059, w_1061, w_32, w_58, w_1062⟩ hd_X9_remember rfl rfl ⟨(Nat.le_of_ble_eq_true rfl), (Nat.le_of_ble_eq_true rfl)⟩ ⟨Nat.zero_le _, Nat.zero_le _⟩ mPre_blind (va_recv hK hP (ci := 5) rfl cM_o) (mPre_call hP hK hN) hS (fun _ h => h) rfl rfl hl.1 (Nat.le_of_ble_eq_true rfl) dX9_laugh_34 (fun H locs hP _ hS => ?_)
        have hP : va_P X.1 vwCl (cM X mi_34 ml ma_34 mb) H := hP
        refine W.eq (g2 := F0 m 37 ls []) rfl ?_
        refine lv_aload_n hx hb dX9_laugh_37 rfl (lv_at hl 0 rfl) ?_
        obtain ⟨r38, hc38, h⟩ := Option.bind_eq_some_iff.mp h
        refine rcV (As := []) (rest := []) ⟨hx, hb, hml, hown, hts⟩ (c_X9_stuckSet l X mi_34 ml ma_34 mb hc38) ⟨w_1022, w_1024, w_26, w_58, w_1025⟩ hd_X9_stuckSet rfl rfl ⟨(Nat.le_of_ble_eq_true rfl), (Nat.le_of_ble_eq_true rfl)⟩ ⟨Nat.zero_le _, Nat.zero_le _⟩ mPre_blind (va_recv hK hP (ci := 5) rfl cM_o) (mPre_call hP hK hN) rfl rfl hl.1 (Nat.le_of_ble_eq_true rfl) dX9_laugh_38 ?_
        obtain ⟨r41, hc41, h⟩ := Option.bind_eq_some_iff.mp h
        refine rcS (As := [.int r38]) (rest := []) ⟨hx, hb, hml, hown, hts⟩ (c_X9_bits l r38 hc41) ⟨w_1030, w_1031, w_58, w_1032⟩ hd_X9_bits rfl rfl ⟨(Nat.le_of_ble_eq_true rfl), (Nat.le_of_ble_eq_true rfl)⟩ ⟨Nat.zero_le _, Nat.zero_le _⟩ (fun _ _ _ _ h => h) (fun _ _ _ => trivial) rfl rfl hl.1 (Nat.le_of_ble_eq_true rfl) dX9_laugh_41 ?_
        refine lv_istore_n (lv' := [(2, .int r41), (0, .ref (xB X 0)), (1, .int a1)]) hx hb dX9_laugh_44 rfl hl (by decide) rfl (fun ls hl => ?_)
        refine lv_iconst (v := 0) hx hb dX9_laugh_45 (by decide) ?_
        refine lv_istore_n (lv' := [(3, .int (0 : Int32)), (2, .int r41), (0, .ref (xB X 0)), (1, .int a1)]) hx hb dX9_laugh_46 rfl hl (by decide) rfl (fun ls hl => ?_)
        exact hL47 500 a1 r41 (0 : Int32) mi_34 ma_34 _ _ ls (lv_sub hl [2, 3, 1, 0] rfl) hP hS h
      · replace h := if_t c27 h
        refine lv_bipush (v := -2) hx hb dX9_laugh_30 (by decide) ?_
        cases h
        exact W.iret hx hb hr (fun t ht _ => ⟨rfl, by rw [ht]; exact hP, hS.F ht⟩) hS.2.2 dX9_laugh_32
    · replace h := if_t c15 h
      refine lv_bipush (v := -4) hx hb dX9_laugh_18 (by decide) ?_
      cases h
      exact W.iret hx hb hr (fun t ht _ => ⟨rfl, by rw [ht]; exact hP, hS.F ht⟩) hS.2.2 dX9_laugh_20
  · replace h := if_t c5 h
    refine lv_iconst (v := -1) hx hb dX9_laugh_8 (by decide) ?_
    cases h
    exact W.iret hx hb hr (fun t ht _ => ⟨rfl, by rw [ht]; exact hP, hS.F ht⟩) hS.2.2 dX9_laugh_9
set_option maxRecDepth 100000 in
set_option maxHeartbeats 4000000 in
theorem c_X9_days (l : Launch) (X : gX) (mi : Nat → Int32) (ml : Nat → Int64) (ma : Nat → Nat → Int32) (mb : Nat → Nat → Int64) (a1 : Int32) {o0 : Int32} {o_mi : Nat → Int32} {o_ma : Nat → Nat → Int32} (h : X9_days a1 mi ma = some (o0, o_mi, o_ma)) : Met l yX9_days (Cond.code yX9_days cX9_days 2 (some .int) :: gT) { frames := 1, cells := 0, slots := 0, locals := 25 } (va_Pc [.ref (xB X 0), .int a1] (mPre X mi ml ma mb)) (wQ (some (.int o0)) (fun H => va_P X.1 vwCl (cM X o_mi ml o_ma mb) H) (mA X)) 0 0 (mA X) := by
  refine Met.ofW (cc := cX9_days) (maxL := 2) (ret := (some .int)) (by decide) rfl ?_
  intro p e s m args below meth c s₁ B hml hv
  obtain ⟨rfl, hP, hK, hN⟩ := hv
  have hx := B.exec
  have hb := B.bytes
  have hr := B.returns
  have hts := atoms_spec (ws := (Cond.code yX9_days cX9_days 2 (some .int) :: gT)) B.pre
  have hT : ∀ w ∈ gT, w.before _ s = true := fun w hw => hts w (List.mem_cons_of_mem _ hw)
  have hown : s.vm.findClass RX9 = some m.cls := findClass_of_methodNamed B.named
  have hlocks := B.notSynchronized
  have hS : va_S (mA X) s.heap s.heap [] := va_S.rf
  have hl := lv_entry ([.ref (xB X 0), .int a1]) (n := 2) (Nat.le_of_ble_eq_true rfl)
  rw [lg_entry_eq]
  generalize (lg_sl ([.ref (xB X 0), .int a1]) ++ List.replicate (2 - (lg_sl ([.ref (xB X 0), .int a1])).length) Slot.unset).toArray = ls at hl ⊢
  have hl : lv_has ls 2 [(0, .ref (xB X 0)), (1, .int a1)] := hl
  rw [X9_days] at h
  refine lv_iload_n hx hb dX9_days_0 rfl (lv_at hl 1 rfl) ?_
  refine lv_i2l hx hb dX9_days_1 rfl ?_
  refine lv_lconst (v := 0) hx hb dX9_days_2 (by decide) ?_
  refine lv_ldc2 (v := 400) hx hb hown (hT _ w_1075) dX9_days_3 ?_
  obtain ⟨r6, hc6, h⟩ := Option.bind_eq_some_iff.mp h
  refine rcS (As := [.long a1.toInt64, .long (0 : Int64), .long (400 : Int64)]) (rest := []) ⟨hx, hb, hml, hown, hts⟩ (c_X9_in l a1.toInt64 (0 : Int64) (400 : Int64) hc6) ⟨w_912, w_913, w_58, w_914⟩ hd_X9_in rfl rfl ⟨(Nat.le_of_ble_eq_true rfl), (Nat.le_of_ble_eq_true rfl)⟩ ⟨Nat.zero_le _, Nat.zero_le _⟩ (fun _ _ _ _ h => h) (fun _ _ _ => trivial) rfl rfl hl.1 (Nat.le_of_ble_eq_true rfl) dX9_days_6 ?_
  refine lv_if_ne (tgt := 14) hx hb dX9_days_9 (by decide) (fun c9 => ?_) (fun c9 => ?_)
  · replace h := if_f c9 h
    refine lv_aload_n hx hb dX9_days_14 rfl (lv_at hl 0 rfl) ?_
    refine rg_M_people hx hb hT hown hK hP w_779 dX9_days_15 ?_
    refine lv_if_ne (tgt := 24) hx hb dX9_days_18 (by decide) (fun c18 => ?_) (fun c18 => ?_)
    · replace h := if_f c18 h
      refine lv_aload_n hx hb dX9_days_24 rfl (lv_at hl 0 rfl) ?_
      refine rg_M_deeds hx hb hT hown hK hP w_786 dX9_days_25 ?_
      refine lv_bipush (v := 60) hx hb dX9_days_28 (by decide) ?_
      refine lv_icmp_eq (tgt := 45) hx hb dX9_days_30 (by decide) (fun c30 => ?_) (fun c30 => ?_)
      · replace h := if_t c30 h
        refine lv_bipush (v := -2) hx hb dX9_days_45 (by decide) ?_
        cases h
        exact W.iret hx hb hr (fun t ht _ => ⟨rfl, by rw [ht]; exact hP, hS.F ht⟩) hS.2.2 dX9_days_47
      · replace h := if_f c30 h
        refine lv_aload_n hx hb dX9_days_33 rfl (lv_at hl 0 rfl) ?_
        refine rg_M_day hx hb hT hown hK hP w_785 dX9_days_34 ?_
        refine lv_iload_n hx hb dX9_days_37 rfl (lv_at hl 1 rfl) ?_
        refine lv_iadd hx hb dX9_days_38 ?_
        refine lv_sipush (v := 9999) hx hb dX9_days_39 (by decide) ?_
        refine lv_icmp_le (tgt := 48) hx hb dX9_days_42 (by decide) (fun c42 => ?_) (fun c42 => ?_)
        · replace h := if_t c42 h
          refine lv_aload_n hx hb dX9_days_48 rfl (lv_at hl 0 rfl) ?_
          obtain ⟨mi_49, ma_49, hc49, h⟩ := bd2_e h
          refine wcV (As := []) (rest := []) ⟨hx, hb, hml, hown, hts⟩ (c_X9_remember l X mi ml ma mb hc49) ⟨w_1059, w_1061, w_32, w_58, w_1062⟩ hd_X9_remember rfl rfl ⟨(Nat.le_of_ble_eq_true rfl), (Nat.le_of_ble_eq_true rfl)⟩ ⟨Nat.zero_le _, Nat.zero_le _⟩ mPre_blind (va_recv hK hP (ci := 5) rfl cM_o) (mPre_call hP hK hN) hS (fun _ h => h) rfl rfl hl.1 (Nat.le_of_ble_eq_true rfl) dX9_days_49 (fun H locs hP _ hS => ?_)
          have hP : va_P X.1 vwCl (cM X mi_49 ml ma_49 mb) H := hP
          refine W.eq (g2 := F0 m 52 ls []) rfl ?_
          refine lv_aload_n hx hb dX9_days_52 rfl (lv_at hl 0 rfl) ?_
          refine lv_dup hx hb dX9_days_53 rfl ?_
          refine rg_M_day hx hb hT hown hK hP w_785 dX9_days_54 ?_
          refine lv_iload_n hx hb dX9_days_57 rfl (lv_at hl 1 rfl) ?_
          refine lv_iadd hx hb dX9_days_58 ?_
          refine rp_M_day hx hb hT hown hK hP hN hS w_785 dX9_days_59 (fun H locs hP hS => ?_)
          generalize emi_59 : va_up mi_49 1 ((mi_49 1) + a1) = mi_59 at hP
          replace h := lt_g h emi_59
          refine lv_aload_n hx hb dX9_days_62 rfl (lv_at hl 0 rfl) ?_
          refine rg_M_day hx hb hT hown hK hP w_785 dX9_days_63 ?_
          cases h
          exact W.iret hx hb hr (fun t ht _ => ⟨rfl, by rw [ht]; exact hP, hS.F ht⟩) hS.2.2 dX9_days_66
        · replace h := if_f c42 h
          refine lv_bipush (v := -2) hx hb dX9_days_45 (by decide) ?_
          cases h
          exact W.iret hx hb hr (fun t ht _ => ⟨rfl, by rw [ht]; exact hP, hS.F ht⟩) hS.2.2 dX9_days_47
    · replace h := if_t c18 h
      refine lv_bipush (v := -4) hx hb dX9_days_21 (by decide) ?_
      cases h
      exact W.iret hx hb hr (fun t ht _ => ⟨rfl, by rw [ht]; exact hP, hS.F ht⟩) hS.2.2 dX9_days_23
  · replace h := if_t c9 h
    refine lv_iconst (v := -1) hx hb dX9_days_12 (by decide) ?_
    cases h
    exact W.iret hx hb hr (fun t ht _ => ⟨rfl, by rw [ht]; exact hP, hS.F ht⟩) hS.2.2 dX9_days_13
set_option maxRecDepth 100000 in
set_option maxHeartbeats 4000000 in
theorem c_X9_undo (l : Launch) (X : gX) (mi : Nat → Int32) (ml : Nat → Int64) (ma : Nat → Nat → Int32) (mb : Nat → Nat → Int64) (a1 : Int32) {o0 : Int32} {o_mi : Nat → Int32} {o_ma : Nat → Nat → Int32} (h : X9_undo a1 mi ma = some (o0, o_mi, o_ma)) : Met l yX9_undo (Cond.code yX9_undo cX9_undo 4 (some .int) :: gT) { frames := 1, cells := 0, slots := 0, locals := 25 } (va_Pc [.ref (xB X 0), .int a1] (mPre X mi ml ma mb)) (wQ (some (.int o0)) (fun H => va_P X.1 vwCl (cM X o_mi ml o_ma mb) H) (mA X)) 0 0 (mA X) := by
  refine Met.ofW (cc := cX9_undo) (maxL := 4) (ret := (some .int)) (by decide) rfl ?_
  intro p e s m args below meth c s₁ B hml hv
  obtain ⟨rfl, hP, hK, hN⟩ := hv
  have hx := B.exec
  have hb := B.bytes
  have hr := B.returns
  have hts := atoms_spec (ws := (Cond.code yX9_undo cX9_undo 4 (some .int) :: gT)) B.pre
  have hT : ∀ w ∈ gT, w.before _ s = true := fun w hw => hts w (List.mem_cons_of_mem _ hw)
  have hown : s.vm.findClass RX9 = some m.cls := findClass_of_methodNamed B.named
  have hlocks := B.notSynchronized
  have hS : va_S (mA X) s.heap s.heap [] := va_S.rf
  have hl := lv_entry ([.ref (xB X 0), .int a1]) (n := 4) (Nat.le_of_ble_eq_true rfl)
  rw [lg_entry_eq]
  generalize (lg_sl ([.ref (xB X 0), .int a1]) ++ List.replicate (4 - (lg_sl ([.ref (xB X 0), .int a1])).length) Slot.unset).toArray = ls at hl ⊢
  have hl : lv_has ls 4 [(0, .ref (xB X 0)), (1, .int a1)] := hl
  have hL34 : ∀ (n34 : Nat) (v1 : Int32) (v2 : Int32) (v3 : Int32) (mi : Nat → Int32) (ma : Nat → Nat → Int32) (H : Heap) (locs : List Loc) (ls : Array Slot), lv_has ls 4 [(0, .ref (xB X 0)), (1, .int v1), (2, .int v2), (3, .int v3)] → va_P X.1 vwCl (cM X mi ml ma mb) H → va_S (mA X) s.heap H locs → X9_undo_34 n34 v1 v2 v3 mi ma = some (o0, o_mi, o_ma) → W p l e (headSpec (Cond.code yX9_undo cX9_undo 4 (some .int) :: gT) { frames := 1, cells := 0, slots := 0, locals := 25 }).room s m [.ref (xB X 0), .int a1].toArray below meth c H locs 0 0 (MQ below (wQ (some (.int o0)) (fun H => va_P X.1 vwCl (cM X o_mi ml o_ma mb) H) (mA X)) [.ref (xB X 0), .int a1].toArray s 0 0 (mA X)) (F0 m 34 ls []) := by
    intro n34
    induction n34 with
    | zero =>
      intro v1 v2 v3 mi ma H locs ls hl hP hS h
      rw [X9_undo_34] at h
      cases h
    | succ n34 ih34 =>
      intro v1 v2 v3 mi ma H locs ls hl hP hS h
      rw [X9_undo_34] at h
      refine lv_iload_n hx hb dX9_undo_34 rfl (lv_at hl 3 rfl) ?_
      refine lv_bipush (v := 7) hx hb dX9_undo_35 (by decide) ?_
      refine lv_icmp_ge (tgt := 97) hx hb dX9_undo_37 (by decide) (fun c37 => ?_) (fun c37 => ?_)
      · replace h := if_t c37 h
        refine lv_aload_n hx hb dX9_undo_97 rfl (lv_at hl 0 rfl) ?_
        refine lv_aload_n hx hb dX9_undo_98 rfl (lv_at hl 0 rfl) ?_
        refine rg_M_pastDay hx hb hT hown hK hP w_790 dX9_undo_99 ?_
        refine lv_iload_n hx hb dX9_undo_102 rfl (lv_at hl 1 rfl) ?_
        obtain ⟨hi103, h⟩ := gd_e h
        refine ra_m8 hx hb hK hP (ib_in hi103) dX9_undo_103 ?_
        refine rp_M_day hx hb hT hown hK hP hN hS w_785 dX9_undo_104 (fun H locs hP hS => ?_)
        generalize emi_104 : va_up mi 1 (ma 8 v1.toNatClampNeg) = mi_104 at hP
        replace h := lt_g h emi_104
        refine lv_iload_n hx hb dX9_undo_107 rfl (lv_at hl 2 rfl) ?_
        cases h
        exact W.iret hx hb hr (fun t ht _ => ⟨rfl, by rw [ht]; exact hP, hS.F ht⟩) hS.2.2 dX9_undo_108
      · replace h := if_f c37 h
        refine lv_aload_n hx hb dX9_undo_40 rfl (lv_at hl 0 rfl) ?_
        refine rg_M_hangs hx hb hT hown hK hP w_782 dX9_undo_41 ?_
        refine lv_iload_n hx hb dX9_undo_44 rfl (lv_at hl 3 rfl) ?_
        refine lv_aload_n hx hb dX9_undo_45 rfl (lv_at hl 0 rfl) ?_
        refine rg_M_pastHangs hx hb hT hown hK hP w_787 dX9_undo_46 ?_
        refine lv_bipush (v := 7) hx hb dX9_undo_49 (by decide) ?_
        refine lv_iload_n hx hb dX9_undo_51 rfl (lv_at hl 1 rfl) ?_
        refine lv_imul hx hb dX9_undo_52 ?_
        refine lv_iload_n hx hb dX9_undo_53 rfl (lv_at hl 3 rfl) ?_
        refine lv_iadd hx hb dX9_undo_54 ?_
        obtain ⟨hi55, h⟩ := gd_e h
        refine ra_m5 hx hb hK hP (ib_in hi55) dX9_undo_55 ?_
        obtain ⟨hi56, h⟩ := gd_e h
        refine rs_m2 hx hb hK hP hN hS (ib_in hi56) dX9_undo_56 (fun H locs hP hS => ?_)
        generalize ema_56 : va_up ma 2 (upd (ma 2) v3.toNatClampNeg (ma 5 (((7 : Int32) * v1) + v3).toNatClampNeg)) = ma_56 at hP
        replace h := lt_g h ema_56
        refine lv_aload_n hx hb dX9_undo_57 rfl (lv_at hl 0 rfl) ?_
        refine rg_M_hand hx hb hT hown hK hP w_783 dX9_undo_58 ?_
        refine lv_iload_n hx hb dX9_undo_61 rfl (lv_at hl 3 rfl) ?_
        refine lv_aload_n hx hb dX9_undo_62 rfl (lv_at hl 0 rfl) ?_
        refine rg_M_pastHand hx hb hT hown hK hP w_788 dX9_undo_63 ?_
        refine lv_bipush (v := 7) hx hb dX9_undo_66 (by decide) ?_
        refine lv_iload_n hx hb dX9_undo_68 rfl (lv_at hl 1 rfl) ?_
        refine lv_imul hx hb dX9_undo_69 ?_
        refine lv_iload_n hx hb dX9_undo_70 rfl (lv_at hl 3 rfl) ?_
        refine lv_iadd hx hb dX9_undo_71 ?_
        obtain ⟨hi72, h⟩ := gd_e h
        refine ra_m6 hx hb hK hP (ib_in hi72) dX9_undo_72 ?_
        obtain ⟨hi73, h⟩ := gd_e h
        refine rs_m3 hx hb hK hP hN hS (ib_in hi73) dX9_undo_73 (fun H locs hP hS => ?_)
        generalize ema_73 : va_up ma_56 3 (upd (ma_56 3) v3.toNatClampNeg (ma_56 6 (((7 : Int32) * v1) + v3).toNatClampNeg)) = ma_73 at hP
        replace h := lt_g h ema_73
        refine lv_aload_n hx hb dX9_undo_74 rfl (lv_at hl 0 rfl) ?_
        refine rg_M_laughed hx hb hT hown hK hP w_784 dX9_undo_75 ?_
        refine lv_iload_n hx hb dX9_undo_78 rfl (lv_at hl 3 rfl) ?_
        refine lv_aload_n hx hb dX9_undo_79 rfl (lv_at hl 0 rfl) ?_
        refine rg_M_pastLaughed hx hb hT hown hK hP w_789 dX9_undo_80 ?_
        refine lv_bipush (v := 7) hx hb dX9_undo_83 (by decide) ?_
        refine lv_iload_n hx hb dX9_undo_85 rfl (lv_at hl 1 rfl) ?_
        refine lv_imul hx hb dX9_undo_86 ?_
        refine lv_iload_n hx hb dX9_undo_87 rfl (lv_at hl 3 rfl) ?_
        refine lv_iadd hx hb dX9_undo_88 ?_
        obtain ⟨hi89, h⟩ := gd_e h
        refine ra_m7 hx hb hK hP (ib_in hi89) dX9_undo_89 ?_
        obtain ⟨hi90, h⟩ := gd_e h
        refine rs_m4 hx hb hK hP hN hS (ib_in hi90) dX9_undo_90 (fun H locs hP hS => ?_)
        generalize ema_90 : va_up ma_73 4 (upd (ma_73 4) v3.toNatClampNeg (ma_73 7 (((7 : Int32) * v1) + v3).toNatClampNeg)) = ma_90 at hP
        replace h := lt_g h ema_90
        refine lv_iinc (v := (v3 + (1 : Int32))) (lv' := [(3, .int (v3 + (1 : Int32))), (0, .ref (xB X 0)), (1, .int v1), (2, .int v2)]) hx hb dX9_undo_91 hl (k := 3) rfl rfl (by decide) rfl (fun ls hl => ?_)
        refine lv_goto (tgt := 34) hx hb dX9_undo_94 (by decide) ?_
        exact ih34 v1 v2 (v3 + (1 : Int32)) mi ma_90 _ _ ls (lv_sub hl [1, 2, 3, 0] rfl) hP hS h
  rw [X9_undo] at h
  refine lv_iload_n hx hb dX9_undo_0 rfl (lv_at hl 1 rfl) ?_
  refine lv_i2l hx hb dX9_undo_1 rfl ?_
  refine lv_lconst (v := 0) hx hb dX9_undo_2 (by decide) ?_
  refine lv_aload_n hx hb dX9_undo_3 rfl (lv_at hl 0 rfl) ?_
  refine rg_M_deeds hx hb hT hown hK hP w_786 dX9_undo_4 ?_
  refine lv_i2l hx hb dX9_undo_7 rfl ?_
  obtain ⟨r8, hc8, h⟩ := Option.bind_eq_some_iff.mp h
  refine rcS (As := [.long a1.toInt64, .long (0 : Int64), .long ((mi 2).toInt64)]) (rest := []) ⟨hx, hb, hml, hown, hts⟩ (c_X9_in l a1.toInt64 (0 : Int64) ((mi 2).toInt64) hc8) ⟨w_912, w_913, w_58, w_914⟩ hd_X9_in rfl rfl ⟨(Nat.le_of_ble_eq_true rfl), (Nat.le_of_ble_eq_true rfl)⟩ ⟨Nat.zero_le _, Nat.zero_le _⟩ (fun _ _ _ _ h => h) (fun _ _ _ => trivial) rfl rfl hl.1 (Nat.le_of_ble_eq_true rfl) dX9_undo_8 ?_
  refine lv_if_ne (tgt := 16) hx hb dX9_undo_11 (by decide) (fun c11 => ?_) (fun c11 => ?_)
  · replace h := if_f c11 h
    refine lv_aload_n hx hb dX9_undo_16 rfl (lv_at hl 0 rfl) ?_
    refine rg_M_deeds hx hb hT hown hK hP w_786 dX9_undo_17 ?_
    refine lv_iload_n hx hb dX9_undo_20 rfl (lv_at hl 1 rfl) ?_
    refine lv_isub hx hb dX9_undo_21 ?_
    refine lv_istore_n (lv' := [(2, .int ((mi 2) - a1)), (0, .ref (xB X 0)), (1, .int a1)]) hx hb dX9_undo_22 rfl hl (by decide) rfl (fun ls hl => ?_)
    refine lv_iload_n hx hb dX9_undo_23 rfl (lv_at hl 0 rfl) ?_
    refine lv_if_le (tgt := 107) hx hb dX9_undo_24 (by decide) (fun c24 => ?_) (fun c24 => ?_)
    · replace h := if_t c24 h
      refine lv_iload_n hx hb dX9_undo_107 rfl (lv_at hl 0 rfl) ?_
      cases h
      exact W.iret hx hb hr (fun t ht _ => ⟨rfl, by rw [ht]; exact hP, hS.F ht⟩) hS.2.2 dX9_undo_108
    · replace h := if_f c24 h
      refine lv_aload_n hx hb dX9_undo_27 rfl (lv_at hl 1 rfl) ?_
      refine lv_iload_n hx hb dX9_undo_28 rfl (lv_at hl 2 rfl) ?_
      refine rp_M_deeds hx hb hT hown hK hP hN hS w_786 dX9_undo_29 (fun H locs hP hS => ?_)
      generalize emi_29 : va_up mi 2 a1 = mi_29 at hP
      replace h := lt_g h emi_29
      refine lv_iconst (v := 0) hx hb dX9_undo_32 (by decide) ?_
      refine lv_istore_n (lv' := [(3, .int (0 : Int32)), (2, .int ((mi 2) - a1)), (0, .ref (xB X 0)), (1, .int a1)]) hx hb dX9_undo_33 rfl hl (by decide) rfl (fun ls hl => ?_)
      exact hL34 500 a1 ((mi 2) - a1) (0 : Int32) mi_29 ma _ _ ls (lv_sub hl [2, 3, 1, 0] rfl) hP hS h
  · replace h := if_t c11 h
    refine lv_iconst (v := -1) hx hb dX9_undo_14 (by decide) ?_
    cases h
    exact W.iret hx hb hr (fun t ht _ => ⟨rfl, by rw [ht]; exact hP, hS.F ht⟩) hS.2.2 dX9_undo_15
set_option maxRecDepth 100000 in
set_option maxHeartbeats 4000000 in
theorem c_X9_stuck (l : Launch) (X : gX) (mi : Nat → Int32) (ml : Nat → Int64) (ma : Nat → Nat → Int32) (mb : Nat → Nat → Int64) {o0 : Int32} (h : X9_stuck mi ma = some o0) : Met l yX9_stuck (Cond.code yX9_stuck cX9_stuck 1 (some .int) :: gT) { frames := 2, cells := 0, slots := 0, locals := 43 } (va_Pc [.ref (xB X 0)] (mPre X mi ml ma mb)) (k2_QcV (.int o0)) 0 0 (fun _ => False) := by
  refine Met.ofW (cc := cX9_stuck) (maxL := 1) (ret := (some .int)) (by decide) rfl ?_
  intro p e s m args below meth c s₁ B hml hv
  obtain ⟨rfl, hP, hK, hN⟩ := hv
  have hx := B.exec
  have hb := B.bytes
  have hr := B.returns
  have hts := atoms_spec (ws := (Cond.code yX9_stuck cX9_stuck 1 (some .int) :: gT)) B.pre
  have hT : ∀ w ∈ gT, w.before _ s = true := fun w hw => hts w (List.mem_cons_of_mem _ hw)
  have hown : s.vm.findClass RX9 = some m.cls := findClass_of_methodNamed B.named
  have hlocks := B.notSynchronized
  have hS : va_S (mA X) s.heap s.heap [] := va_S.rf
  have hl := lv_entry ([.ref (xB X 0)]) (n := 1) (Nat.le_of_ble_eq_true rfl)
  rw [lg_entry_eq]
  generalize (lg_sl ([.ref (xB X 0)]) ++ List.replicate (1 - (lg_sl ([.ref (xB X 0)])).length) Slot.unset).toArray = ls at hl ⊢
  have hl : lv_has ls 1 [(0, .ref (xB X 0))] := hl
  rw [X9_stuck] at h
  refine lv_aload_n hx hb dX9_stuck_0 rfl (lv_at hl 0 rfl) ?_
  obtain ⟨r1, hc1, h⟩ := Option.bind_eq_some_iff.mp h
  refine rcV (As := []) (rest := []) ⟨hx, hb, hml, hown, hts⟩ (c_X9_stuckSet l X mi ml ma mb hc1) ⟨w_1022, w_1024, w_26, w_58, w_1025⟩ hd_X9_stuckSet rfl rfl ⟨(Nat.le_of_ble_eq_true rfl), (Nat.le_of_ble_eq_true rfl)⟩ ⟨Nat.zero_le _, Nat.zero_le _⟩ mPre_blind (va_recv hK hP (ci := 5) rfl cM_o) (mPre_call hP hK hN) rfl rfl hl.1 (Nat.le_of_ble_eq_true rfl) dX9_stuck_1 ?_
  cases h
  exact W.iret hx hb hr (fun t ht _ => ⟨rfl, ht⟩) (fun _ hq => by cases hq) dX9_stuck_4
set_option maxRecDepth 100000 in
set_option maxHeartbeats 4000000 in
theorem c_X9_canLaugh (l : Launch) (X : gX) (mi : Nat → Int32) (ml : Nat → Int64) (ma : Nat → Nat → Int32) (mb : Nat → Nat → Int64) {o0 : Int32} (h : X9_canLaugh mi ma = some o0) : Met l yX9_canLaugh (Cond.code yX9_canLaugh cX9_canLaugh 3 (some .int) :: gT) { frames := 4, cells := 0, slots := 0, locals := 89 } (va_Pc [.ref (xB X 0)] (mPre X mi ml ma mb)) (k2_QcV (.int o0)) 0 0 (fun _ => False) := by
  refine Met.ofW (cc := cX9_canLaugh) (maxL := 3) (ret := (some .int)) (by decide) rfl ?_
  intro p e s m args below meth c s₁ B hml hv
  obtain ⟨rfl, hP, hK, hN⟩ := hv
  have hx := B.exec
  have hb := B.bytes
  have hr := B.returns
  have hts := atoms_spec (ws := (Cond.code yX9_canLaugh cX9_canLaugh 3 (some .int) :: gT)) B.pre
  have hT : ∀ w ∈ gT, w.before _ s = true := fun w hw => hts w (List.mem_cons_of_mem _ hw)
  have hown : s.vm.findClass RX9 = some m.cls := findClass_of_methodNamed B.named
  have hlocks := B.notSynchronized
  have hS : va_S (mA X) s.heap s.heap [] := va_S.rf
  have hl := lv_entry ([.ref (xB X 0)]) (n := 3) (Nat.le_of_ble_eq_true rfl)
  rw [lg_entry_eq]
  generalize (lg_sl ([.ref (xB X 0)]) ++ List.replicate (3 - (lg_sl ([.ref (xB X 0)])).length) Slot.unset).toArray = ls at hl ⊢
  have hl : lv_has ls 3 [(0, .ref (xB X 0))] := hl
  have hL4 : ∀ (n4 : Nat) (v1 : Int32) (v2 : Int32) (ls : Array Slot), lv_has ls 3 [(0, .ref (xB X 0)), (1, .int v1), (2, .int v2)] → X9_canLaugh_4 mi ma n4 v1 v2 = some o0 → W p l e (headSpec (Cond.code yX9_canLaugh cX9_canLaugh 3 (some .int) :: gT) { frames := 4, cells := 0, slots := 0, locals := 89 }).room s m [.ref (xB X 0)].toArray below meth c s.heap [] 0 0 (MQ below (k2_QcV (.int o0)) [.ref (xB X 0)].toArray s 0 0 (fun _ => False)) (F0 m 4 ls []) := by
    intro n4
    induction n4 with
    | zero =>
      intro v1 v2 ls hl h
      rw [X9_canLaugh_4] at h
      cases h
    | succ n4 ih4 =>
      intro v1 v2 ls hl h
      rw [X9_canLaugh_4] at h
      refine lv_iload_n hx hb dX9_canLaugh_4 rfl (lv_at hl 2 rfl) ?_
      refine lv_aload_n hx hb dX9_canLaugh_5 rfl (lv_at hl 0 rfl) ?_
      refine rg_M_people hx hb hT hown hK hP w_779 dX9_canLaugh_6 ?_
      refine lv_icmp_ge (tgt := 36) hx hb dX9_canLaugh_9 (by decide) (fun c9 => ?_) (fun c9 => ?_)
      · replace h := if_t c9 h
        refine lv_iload_n hx hb dX9_canLaugh_36 rfl (lv_at hl 1 rfl) ?_
        cases h
        exact W.iret hx hb hr (fun t ht _ => ⟨rfl, ht⟩) (fun _ hq => by cases hq) dX9_canLaugh_37
      · replace h := if_f c9 h
        refine lv_iload_n hx hb dX9_canLaugh_12 rfl (lv_at hl 1 rfl) ?_
        refine lv_aload_n hx hb dX9_canLaugh_13 rfl (lv_at hl 0 rfl) ?_
        refine lv_iload_n hx hb dX9_canLaugh_14 rfl (lv_at hl 2 rfl) ?_
        obtain ⟨r15, hc15, h⟩ := Option.bind_eq_some_iff.mp h
        refine rcV (As := [.int v2]) (rest := [.int v1]) ⟨hx, hb, hml, hown, hts⟩ (c_X9_mayLaugh l X mi ml ma mb v2 hc15) ⟨w_1067, w_1069, w_33, w_58, w_1070⟩ hd_X9_mayLaugh rfl rfl ⟨(Nat.le_of_ble_eq_true rfl), (Nat.le_of_ble_eq_true rfl)⟩ ⟨Nat.zero_le _, Nat.zero_le _⟩ mPre_blind (va_recv hK hP (ci := 5) rfl cM_o) (mPre_call hP hK hN) rfl rfl hl.1 (Nat.le_of_ble_eq_true rfl) dX9_canLaugh_15 ?_
        refine lv_if_eq (tgt := 27) hx hb dX9_canLaugh_18 (by decide) (fun c18 => ?_) (fun c18 => ?_)
        · replace h := if_t c18 h
          refine lv_iconst (v := 0) hx hb dX9_canLaugh_27 (by decide) ?_
          refine lv_ior hx hb dX9_canLaugh_28 ?_
          refine lv_istore_n (lv' := [(1, .int (v1 ||| (0 : Int32))), (0, .ref (xB X 0)), (2, .int v2)]) hx hb dX9_canLaugh_29 rfl hl (by decide) rfl (fun ls hl => ?_)
          refine lv_iinc (v := (v2 + (1 : Int32))) (lv' := [(2, .int (v2 + (1 : Int32))), (1, .int (v1 ||| (0 : Int32))), (0, .ref (xB X 0))]) hx hb dX9_canLaugh_30 hl (k := 2) rfl rfl (by decide) rfl (fun ls hl => ?_)
          refine lv_goto (tgt := 4) hx hb dX9_canLaugh_33 (by decide) ?_
          exact ih4 (v1 ||| (0 : Int32)) (v2 + (1 : Int32)) ls (lv_sub hl [2, 1, 0] rfl) h
        · replace h := if_f c18 h
          refine lv_iconst (v := 1) hx hb dX9_canLaugh_21 (by decide) ?_
          refine lv_iload_n hx hb dX9_canLaugh_22 rfl (lv_at hl 2 rfl) ?_
          refine lv_ishl hx hb dX9_canLaugh_23 ?_
          refine lv_goto (tgt := 28) hx hb dX9_canLaugh_24 (by decide) ?_
          refine lv_ior hx hb dX9_canLaugh_28 ?_
          refine lv_istore_n (lv' := [(1, .int (v1 ||| ((1 : Int32) <<< (v2 &&& 31)))), (0, .ref (xB X 0)), (2, .int v2)]) hx hb dX9_canLaugh_29 rfl hl (by decide) rfl (fun ls hl => ?_)
          refine lv_iinc (v := (v2 + (1 : Int32))) (lv' := [(2, .int (v2 + (1 : Int32))), (1, .int (v1 ||| ((1 : Int32) <<< (v2 &&& 31)))), (0, .ref (xB X 0))]) hx hb dX9_canLaugh_30 hl (k := 2) rfl rfl (by decide) rfl (fun ls hl => ?_)
          refine lv_goto (tgt := 4) hx hb dX9_canLaugh_33 (by decide) ?_
          exact ih4 (v1 ||| ((1 : Int32) <<< (v2 &&& 31))) (v2 + (1 : Int32)) ls (lv_sub hl [2, 1, 0] rfl) h
  rw [X9_canLaugh] at h
  refine lv_iconst (v := 0) hx hb dX9_canLaugh_0 (by decide) ?_
  refine lv_istore_n (lv' := [(1, .int (0 : Int32)), (0, .ref (xB X 0))]) hx hb dX9_canLaugh_1 rfl hl (by decide) rfl (fun ls hl => ?_)
  refine lv_iconst (v := 0) hx hb dX9_canLaugh_2 (by decide) ?_
  refine lv_istore_n (lv' := [(2, .int (0 : Int32)), (1, .int (0 : Int32)), (0, .ref (xB X 0))]) hx hb dX9_canLaugh_3 rfl hl (by decide) rfl (fun ls hl => ?_)
  exact hL4 500 (0 : Int32) (0 : Int32) ls (lv_sub hl [2, 1, 0] rfl) h
set_option maxRecDepth 100000 in
set_option maxHeartbeats 4000000 in
theorem c_X9_hang (l : Launch) (X : gX) (mi : Nat → Int32) (ml : Nat → Int64) (ma : Nat → Nat → Int32) (mb : Nat → Nat → Int64) (a1 : Int32) {o0 : Int32} (h : X9_hang mi ma a1 = some o0) : Met l yX9_hang (Cond.code yX9_hang cX9_hang 2 (some .int) :: gT) { frames := 2, cells := 0, slots := 0, locals := 46 } (va_Pc [.ref (xB X 0), .int a1] (mPre X mi ml ma mb)) (k2_QcV (.int o0)) 0 0 (fun _ => False) := by
  refine Met.ofW (cc := cX9_hang) (maxL := 2) (ret := (some .int)) (by decide) rfl ?_
  intro p e s m args below meth c s₁ B hml hv
  obtain ⟨rfl, hP, hK, hN⟩ := hv
  have hx := B.exec
  have hb := B.bytes
  have hr := B.returns
  have hts := atoms_spec (ws := (Cond.code yX9_hang cX9_hang 2 (some .int) :: gT)) B.pre
  have hT : ∀ w ∈ gT, w.before _ s = true := fun w hw => hts w (List.mem_cons_of_mem _ hw)
  have hown : s.vm.findClass RX9 = some m.cls := findClass_of_methodNamed B.named
  have hlocks := B.notSynchronized
  have hS : va_S (mA X) s.heap s.heap [] := va_S.rf
  have hl := lv_entry ([.ref (xB X 0), .int a1]) (n := 2) (Nat.le_of_ble_eq_true rfl)
  rw [lg_entry_eq]
  generalize (lg_sl ([.ref (xB X 0), .int a1]) ++ List.replicate (2 - (lg_sl ([.ref (xB X 0), .int a1])).length) Slot.unset).toArray = ls at hl ⊢
  have hl : lv_has ls 2 [(0, .ref (xB X 0)), (1, .int a1)] := hl
  rw [X9_hang] at h
  refine lv_iload_n hx hb dX9_hang_0 rfl (lv_at hl 1 rfl) ?_
  refine lv_bipush (v := 9) hx hb dX9_hang_1 (by decide) ?_
  refine lv_icmp_eq (tgt := 14) hx hb dX9_hang_3 (by decide) (fun c3 => ?_) (fun c3 => ?_)
  · replace h := if_t c3 h
    refine lv_aload_n hx hb dX9_hang_14 rfl (lv_at hl 0 rfl) ?_
    refine lv_iload_n hx hb dX9_hang_15 rfl (lv_at hl 1 rfl) ?_
    obtain ⟨r16, hc16, h⟩ := Option.bind_eq_some_iff.mp h
    refine rcV (As := [.int a1]) (rest := []) ⟨hx, hb, hml, hown, hts⟩ (c_X9_hangSet l X mi ml ma mb a1 hc16) ⟨w_1092, w_1094, w_34, w_58, w_1095⟩ hd_X9_hangSet rfl rfl ⟨(Nat.le_of_ble_eq_true rfl), (Nat.le_of_ble_eq_true rfl)⟩ ⟨Nat.zero_le _, Nat.zero_le _⟩ mPre_blind (va_recv hK hP (ci := 5) rfl cM_o) (mPre_call hP hK hN) rfl rfl hl.1 (Nat.le_of_ble_eq_true rfl) dX9_hang_16 ?_
    refine lv_goto (tgt := 23) hx hb dX9_hang_19 (by decide) ?_
    cases h
    exact W.iret hx hb hr (fun t ht _ => ⟨rfl, ht⟩) (fun _ hq => by cases hq) dX9_hang_23
  · replace h := if_f c3 h
    refine lv_aload_n hx hb dX9_hang_6 rfl (lv_at hl 0 rfl) ?_
    refine lv_iload_n hx hb dX9_hang_7 rfl (lv_at hl 1 rfl) ?_
    obtain ⟨r8, hc8, h⟩ := Option.bind_eq_some_iff.mp h
    refine rcV (As := [.int a1]) (rest := []) ⟨hx, hb, hml, hown, hts⟩ (c_X9_isOne l X mi ml ma mb a1 hc8) ⟨w_986, w_988, w_18, w_58, w_989⟩ hd_X9_isOne rfl rfl ⟨(Nat.le_of_ble_eq_true rfl), (Nat.le_of_ble_eq_true rfl)⟩ ⟨Nat.zero_le _, Nat.zero_le _⟩ mPre_blind (va_recv hK hP (ci := 5) rfl cM_o) (mPre_call hP hK hN) rfl rfl hl.1 (Nat.le_of_ble_eq_true rfl) dX9_hang_8 ?_
    refine lv_if_eq (tgt := 22) hx hb dX9_hang_11 (by decide) (fun c11 => ?_) (fun c11 => ?_)
    · replace h := if_t c11 h
      refine lv_iconst (v := -1) hx hb dX9_hang_22 (by decide) ?_
      cases h
      exact W.iret hx hb hr (fun t ht _ => ⟨rfl, ht⟩) (fun _ hq => by cases hq) dX9_hang_23
    · replace h := if_f c11 h
      refine lv_aload_n hx hb dX9_hang_14 rfl (lv_at hl 0 rfl) ?_
      refine lv_iload_n hx hb dX9_hang_15 rfl (lv_at hl 1 rfl) ?_
      obtain ⟨r16, hc16, h⟩ := Option.bind_eq_some_iff.mp h
      refine rcV (As := [.int a1]) (rest := []) ⟨hx, hb, hml, hown, hts⟩ (c_X9_hangSet l X mi ml ma mb a1 hc16) ⟨w_1092, w_1094, w_34, w_58, w_1095⟩ hd_X9_hangSet rfl rfl ⟨(Nat.le_of_ble_eq_true rfl), (Nat.le_of_ble_eq_true rfl)⟩ ⟨Nat.zero_le _, Nat.zero_le _⟩ mPre_blind (va_recv hK hP (ci := 5) rfl cM_o) (mPre_call hP hK hN) rfl rfl hl.1 (Nat.le_of_ble_eq_true rfl) dX9_hang_16 ?_
      refine lv_goto (tgt := 23) hx hb dX9_hang_19 (by decide) ?_
      cases h
      exact W.iret hx hb hr (fun t ht _ => ⟨rfl, ht⟩) (fun _ hq => by cases hq) dX9_hang_23
set_option maxRecDepth 100000 in
set_option maxHeartbeats 4000000 in
theorem c_X9_behind (l : Launch) (X : gX) (mi : Nat → Int32) (ml : Nat → Int64) (ma : Nat → Nat → Int32) (mb : Nat → Nat → Int64) (a1 : Int32) {o0 : Int32} (h : X9_behind mi ma a1 = some o0) : Met l yX9_behind (Cond.code yX9_behind cX9_behind 5 (some .int) :: gT) { frames := 2, cells := 0, slots := 0, locals := 42 } (va_Pc [.ref (xB X 0), .int a1] (mPre X mi ml ma mb)) (k2_QcV (.int o0)) 0 0 (fun _ => False) := by
  refine Met.ofW (cc := cX9_behind) (maxL := 5) (ret := (some .int)) (by decide) rfl ?_
  intro p e s m args below meth c s₁ B hml hv
  obtain ⟨rfl, hP, hK, hN⟩ := hv
  have hx := B.exec
  have hb := B.bytes
  have hr := B.returns
  have hts := atoms_spec (ws := (Cond.code yX9_behind cX9_behind 5 (some .int) :: gT)) B.pre
  have hT : ∀ w ∈ gT, w.before _ s = true := fun w hw => hts w (List.mem_cons_of_mem _ hw)
  have hown : s.vm.findClass RX9 = some m.cls := findClass_of_methodNamed B.named
  have hlocks := B.notSynchronized
  have hS : va_S (mA X) s.heap s.heap [] := va_S.rf
  have hl := lv_entry ([.ref (xB X 0), .int a1]) (n := 5) (Nat.le_of_ble_eq_true rfl)
  rw [lg_entry_eq]
  generalize (lg_sl ([.ref (xB X 0), .int a1]) ++ List.replicate (5 - (lg_sl ([.ref (xB X 0), .int a1])).length) Slot.unset).toArray = ls at hl ⊢
  have hl : lv_has ls 5 [(0, .ref (xB X 0)), (1, .int a1)] := hl
  have hL17 : ∀ (n17 : Nat) (v3 : Int32) (ls : Array Slot), lv_has ls 5 [(0, .ref (xB X 0)), (3, .int v3)] → X9_behind_17 mi ma n17 v3 = some o0 → W p l e (headSpec (Cond.code yX9_behind cX9_behind 5 (some .int) :: gT) { frames := 2, cells := 0, slots := 0, locals := 42 }).room s m [.ref (xB X 0), .int a1].toArray below meth c s.heap [] 0 0 (MQ below (k2_QcV (.int o0)) [.ref (xB X 0), .int a1].toArray s 0 0 (fun _ => False)) (F0 m 17 ls []) := by
    intro n17
    induction n17 with
    | zero =>
      intro v3 ls hl h
      rw [X9_behind_17] at h
      cases h
    | succ n17 ih17 =>
      intro v3 ls hl h
      rw [X9_behind_17] at h
      refine lv_iload_n hx hb dX9_behind_17 rfl (lv_at hl 1 rfl) ?_
      refine lv_bipush (v := 9) hx hb dX9_behind_18 (by decide) ?_
      refine lv_icmp_eq (tgt := 66) hx hb dX9_behind_20 (by decide) (fun c20 => ?_) (fun c20 => ?_)
      · replace h := if_t c20 h
        refine lv_bipush (v := 9) hx hb dX9_behind_66 (by decide) ?_
        cases h
        exact W.iret hx hb hr (fun t ht _ => ⟨rfl, ht⟩) (fun _ hq => by cases hq) dX9_behind_68
      · replace h := if_f c20 h
        refine lv_aload_n hx hb dX9_behind_23 rfl (lv_at hl 0 rfl) ?_
        refine lv_aload_n hx hb dX9_behind_24 rfl (lv_at hl 0 rfl) ?_
        refine rg_M_hangs hx hb hT hown hK hP w_782 dX9_behind_25 ?_
        refine lv_iload_n hx hb dX9_behind_28 rfl (lv_at hl 1 rfl) ?_
        obtain ⟨hi29, h⟩ := gd_e h
        refine ra_m2 hx hb hK hP (ib_in hi29) dX9_behind_29 ?_
        obtain ⟨r30, hc30, h⟩ := Option.bind_eq_some_iff.mp h
        refine rcV (As := [.int (ma 2 v3.toNatClampNeg)]) (rest := []) ⟨hx, hb, hml, hown, hts⟩ (c_X9_hangSet l X mi ml ma mb (ma 2 v3.toNatClampNeg) hc30) ⟨w_1092, w_1094, w_34, w_58, w_1095⟩ hd_X9_hangSet rfl rfl ⟨(Nat.le_of_ble_eq_true rfl), (Nat.le_of_ble_eq_true rfl)⟩ ⟨Nat.zero_le _, Nat.zero_le _⟩ mPre_blind (va_recv hK hP (ci := 5) rfl cM_o) (mPre_call hP hK hN) rfl rfl hl.1 (Nat.le_of_ble_eq_true rfl) dX9_behind_30 ?_
        refine lv_iconst (v := 1) hx hb dX9_behind_33 (by decide) ?_
        refine lv_iload_n hx hb dX9_behind_34 rfl (lv_at hl 1 rfl) ?_
        refine lv_iconst (v := 1) hx hb dX9_behind_35 (by decide) ?_
        refine lv_iadd hx hb dX9_behind_36 ?_
        refine lv_ishl hx hb dX9_behind_37 ?_
        refine lv_iconst (v := 1) hx hb dX9_behind_38 (by decide) ?_
        refine lv_isub hx hb dX9_behind_39 ?_
        refine lv_iconst (v := -1) hx hb dX9_behind_40 (by decide) ?_
        refine lv_ixor hx hb dX9_behind_41 ?_
        refine lv_iand hx hb dX9_behind_42 ?_
        refine lv_topi (fun v4_43 ev4_43 => ?_)
        replace h := lt_e h ev4_43
        refine lv_istore (lv' := [(4, .int v4_43), (0, .ref (xB X 0)), (3, .int v3)]) hx hb dX9_behind_43 hl (by decide) rfl (fun ls hl => ?_)
        refine lv_iload hx hb dX9_behind_45 (lv_at hl 0 rfl) ?_
        refine lv_if_eq (tgt := 56) hx hb dX9_behind_47 (by decide) (fun c47 => ?_) (fun c47 => ?_)
        · replace h := if_t c47 h
          refine lv_aload_n hx hb dX9_behind_56 rfl (lv_at hl 1 rfl) ?_
          refine rg_M_hangs hx hb hT hown hK hP w_782 dX9_behind_57 ?_
          refine lv_iload_n hx hb dX9_behind_60 rfl (lv_at hl 2 rfl) ?_
          obtain ⟨hi61, h⟩ := gd_e h
          refine ra_m2 hx hb hK hP (ib_in hi61) dX9_behind_61 ?_
          refine lv_istore_n (lv' := [(3, .int (ma 2 v3.toNatClampNeg)), (4, .int v4_43), (0, .ref (xB X 0))]) hx hb dX9_behind_62 rfl hl (by decide) rfl (fun ls hl => ?_)
          refine lv_goto (tgt := 17) hx hb dX9_behind_63 (by decide) ?_
          exact ih17 (ma 2 v3.toNatClampNeg) ls (lv_sub hl [2, 0] rfl) h
        · replace h := if_f c47 h
          refine lv_iload hx hb dX9_behind_50 (lv_at hl 0 rfl) ?_
          obtain ⟨r52, hc52, h⟩ := Option.bind_eq_some_iff.mp h
          refine rcS (As := [.int v4_43]) (rest := []) ⟨hx, hb, hml, hown, hts⟩ (c_X9_lowest l v4_43 hc52) ⟨w_1101, w_1102, w_58, w_1103⟩ hd_X9_lowest rfl rfl ⟨(Nat.le_of_ble_eq_true rfl), (Nat.le_of_ble_eq_true rfl)⟩ ⟨Nat.zero_le _, Nat.zero_le _⟩ (fun _ _ _ _ h => h) (fun _ _ _ => trivial) rfl rfl hl.1 (Nat.le_of_ble_eq_true rfl) dX9_behind_52 ?_
          cases h
          exact W.iret hx hb hr (fun t ht _ => ⟨rfl, ht⟩) (fun _ hq => by cases hq) dX9_behind_55
  rw [X9_behind] at h
  refine lv_aload_n hx hb dX9_behind_0 rfl (lv_at hl 0 rfl) ?_
  refine lv_iload_n hx hb dX9_behind_1 rfl (lv_at hl 1 rfl) ?_
  obtain ⟨r2, hc2, h⟩ := Option.bind_eq_some_iff.mp h
  refine rcV (As := [.int a1]) (rest := []) ⟨hx, hb, hml, hown, hts⟩ (c_X9_hangSet l X mi ml ma mb a1 hc2) ⟨w_1092, w_1094, w_34, w_58, w_1095⟩ hd_X9_hangSet rfl rfl ⟨(Nat.le_of_ble_eq_true rfl), (Nat.le_of_ble_eq_true rfl)⟩ ⟨Nat.zero_le _, Nat.zero_le _⟩ mPre_blind (va_recv hK hP (ci := 5) rfl cM_o) (mPre_call hP hK hN) rfl rfl hl.1 (Nat.le_of_ble_eq_true rfl) dX9_behind_2 ?_
  refine lv_istore_n (lv' := [(2, .int r2), (0, .ref (xB X 0)), (1, .int a1)]) hx hb dX9_behind_5 rfl hl (by decide) rfl (fun ls hl => ?_)
  refine lv_iload_n hx hb dX9_behind_6 rfl (lv_at hl 0 rfl) ?_
  refine lv_if_eq (tgt := 15) hx hb dX9_behind_7 (by decide) (fun c7 => ?_) (fun c7 => ?_)
  · replace h := if_t c7 h
    refine lv_iload_n hx hb dX9_behind_15 rfl (lv_at hl 2 rfl) ?_
    refine lv_istore_n (lv' := [(3, .int a1), (2, .int r2), (0, .ref (xB X 0)), (1, .int a1)]) hx hb dX9_behind_16 rfl hl (by decide) rfl (fun ls hl => ?_)
    exact hL17 500 a1 ls (lv_sub hl [2, 0] rfl) h
  · replace h := if_f c7 h
    refine lv_iload_n hx hb dX9_behind_10 rfl (lv_at hl 0 rfl) ?_
    obtain ⟨r11, hc11, h⟩ := Option.bind_eq_some_iff.mp h
    refine rcS (As := [.int r2]) (rest := []) ⟨hx, hb, hml, hown, hts⟩ (c_X9_lowest l r2 hc11) ⟨w_1101, w_1102, w_58, w_1103⟩ hd_X9_lowest rfl rfl ⟨(Nat.le_of_ble_eq_true rfl), (Nat.le_of_ble_eq_true rfl)⟩ ⟨Nat.zero_le _, Nat.zero_le _⟩ (fun _ _ _ _ h => h) (fun _ _ _ => trivial) rfl rfl hl.1 (Nat.le_of_ble_eq_true rfl) dX9_behind_11 ?_
    cases h
    exact W.iret hx hb hr (fun t ht _ => ⟨rfl, ht⟩) (fun _ hq => by cases hq) dX9_behind_14
set_option maxRecDepth 100000 in
set_option maxHeartbeats 4000000 in
theorem c_X9_train (l : Launch) (X : gX) (mi : Nat → Int32) (ml : Nat → Int64) (ma : Nat → Nat → Int32) (mb : Nat → Nat → Int64) (a1 : Int32) {o0 : Int32} {o_mi : Nat → Int32} {o_ma : Nat → Nat → Int32} (h : X9_train a1 mi ma = some (o0, o_mi, o_ma)) : Met l yX9_train (Cond.code yX9_train cX9_train 6 (some .int) :: gT) { frames := 3, cells := 0, slots := 0, locals := 68 } (va_Pc [.ref (xB X 0), .int a1] (mPre X mi ml ma mb)) (wQ (some (.int o0)) (fun H => va_P X.1 vwCl (cM X o_mi ml o_ma mb) H) (mA X)) 0 0 (mA X) := by
  refine Met.ofW (cc := cX9_train) (maxL := 6) (ret := (some .int)) (by decide) rfl ?_
  intro p e s m args below meth c s₁ B hml hv
  obtain ⟨rfl, hP, hK, hN⟩ := hv
  have hx := B.exec
  have hb := B.bytes
  have hr := B.returns
  have hts := atoms_spec (ws := (Cond.code yX9_train cX9_train 6 (some .int) :: gT)) B.pre
  have hT : ∀ w ∈ gT, w.before _ s = true := fun w hw => hts w (List.mem_cons_of_mem _ hw)
  have hown : s.vm.findClass RX9 = some m.cls := findClass_of_methodNamed B.named
  have hlocks := B.notSynchronized
  have hS : va_S (mA X) s.heap s.heap [] := va_S.rf
  have hl := lv_entry ([.ref (xB X 0), .int a1]) (n := 6) (Nat.le_of_ble_eq_true rfl)
  rw [lg_entry_eq]
  generalize (lg_sl ([.ref (xB X 0), .int a1]) ++ List.replicate (6 - (lg_sl ([.ref (xB X 0), .int a1])).length) Slot.unset).toArray = ls at hl ⊢
  have hl : lv_has ls 6 [(0, .ref (xB X 0)), (1, .int a1)] := hl
  have hL47 : ∀ (n47 : Nat) (v1 : Int32) (v2 : Int32) (v4 : Int32) (v5 : Int32) (mi : Nat → Int32) (ma : Nat → Nat → Int32) (H : Heap) (locs : List Loc) (ls : Array Slot), lv_has ls 6 [(0, .ref (xB X 0)), (1, .int v1), (2, .int v2), (4, .int v4), (5, .int v5)] → va_P X.1 vwCl (cM X mi ml ma mb) H → va_S (mA X) s.heap H locs → X9_train_47 n47 v1 v2 v4 v5 mi ma = some (o0, o_mi, o_ma) → W p l e (headSpec (Cond.code yX9_train cX9_train 6 (some .int) :: gT) { frames := 3, cells := 0, slots := 0, locals := 68 }).room s m [.ref (xB X 0), .int a1].toArray below meth c H locs 0 0 (MQ below (wQ (some (.int o0)) (fun H => va_P X.1 vwCl (cM X o_mi ml o_ma mb) H) (mA X)) [.ref (xB X 0), .int a1].toArray s 0 0 (mA X)) (F0 m 47 ls []) := by
    intro n47
    induction n47 with
    | zero =>
      intro v1 v2 v4 v5 mi ma H locs ls hl hP hS h
      rw [X9_train_47] at h
      cases h
    | succ n47 ih47 =>
      intro v1 v2 v4 v5 mi ma H locs ls hl hP hS h
      rw [X9_train_47] at h
      refine lv_iload hx hb dX9_train_47 (lv_at hl 4 rfl) ?_
      refine lv_iload_n hx hb dX9_train_49 rfl (lv_at hl 2 rfl) ?_
      refine lv_icmp_ge (tgt := 81) hx hb dX9_train_50 (by decide) (fun c50 => ?_) (fun c50 => ?_)
      · replace h := if_t c50 h
        refine lv_iload_n hx hb dX9_train_81 rfl (lv_at hl 2 rfl) ?_
        cases h
        exact W.iret hx hb hr (fun t ht _ => ⟨rfl, by rw [ht]; exact hP, hS.F ht⟩) hS.2.2 dX9_train_82
      · replace h := if_f c50 h
        refine lv_aload_n hx hb dX9_train_53 rfl (lv_at hl 0 rfl) ?_
        refine rg_M_rows hx hb hT hown hK hP w_797 dX9_train_54 ?_
        refine lv_bipush (v := 40) hx hb dX9_train_57 (by decide) ?_
        refine lv_iload_n hx hb dX9_train_59 rfl (lv_at hl 1 rfl) ?_
        refine lv_imul hx hb dX9_train_60 ?_
        refine lv_iload hx hb dX9_train_61 (lv_at hl 4 rfl) ?_
        refine lv_iadd hx hb dX9_train_63 ?_
        refine lv_iload hx hb dX9_train_64 (lv_at hl 3 rfl) ?_
        obtain ⟨hi66, h⟩ := gd_e h
        refine rs_m11 hx hb hK hP hN hS (ib_in hi66) dX9_train_66 (fun H locs hP hS => ?_)
        generalize ema_66 : va_up ma 11 (upd (ma 11) (((40 : Int32) * v1) + v5).toNatClampNeg v4) = ma_66 at hP
        replace h := lt_g h ema_66
        refine lv_aload_n hx hb dX9_train_67 rfl (lv_at hl 0 rfl) ?_
        refine lv_iload hx hb dX9_train_68 (lv_at hl 3 rfl) ?_
        obtain ⟨r70, hc70, h⟩ := Option.bind_eq_some_iff.mp h
        refine rcV (As := [.int v4]) (rest := []) ⟨hx, hb, hml, hown, hts⟩ (c_X9_behind l X mi ml ma_66 mb v4 hc70) ⟨w_1107, w_1109, w_35, w_58, w_1110⟩ hd_X9_behind rfl rfl ⟨(Nat.le_of_ble_eq_true rfl), (Nat.le_of_ble_eq_true rfl)⟩ ⟨Nat.zero_le _, Nat.zero_le _⟩ mPre_blind (va_recv hK hP (ci := 5) rfl cM_o) (mPre_call hP hK hN) rfl rfl hl.1 (Nat.le_of_ble_eq_true rfl) dX9_train_70 ?_
        refine lv_istore (lv' := [(4, .int r70), (0, .ref (xB X 0)), (1, .int v1), (2, .int v2), (5, .int v5)]) hx hb dX9_train_73 hl (by decide) rfl (fun ls hl => ?_)
        refine lv_iinc (v := (v5 + (1 : Int32))) (lv' := [(5, .int (v5 + (1 : Int32))), (4, .int r70), (0, .ref (xB X 0)), (1, .int v1), (2, .int v2)]) hx hb dX9_train_75 hl (k := 4) rfl rfl (by decide) rfl (fun ls hl => ?_)
        refine lv_goto (tgt := 47) hx hb dX9_train_78 (by decide) ?_
        exact ih47 v1 v2 r70 (v5 + (1 : Int32)) mi ma_66 _ _ ls (lv_sub hl [2, 3, 4, 1, 0] rfl) hP hS h
  rw [X9_train] at h
  refine lv_iload_n hx hb dX9_train_0 rfl (lv_at hl 1 rfl) ?_
  obtain ⟨r1, hc1, h⟩ := Option.bind_eq_some_iff.mp h
  refine rcS (As := [.int a1]) (rest := []) ⟨hx, hb, hml, hown, hts⟩ (c_X9_isRow l a1 hc1) ⟨w_908, w_909, w_58, w_910⟩ hd_X9_isRow rfl rfl ⟨(Nat.le_of_ble_eq_true rfl), (Nat.le_of_ble_eq_true rfl)⟩ ⟨Nat.zero_le _, Nat.zero_le _⟩ (fun _ _ _ _ h => h) (fun _ _ _ => trivial) rfl rfl hl.1 (Nat.le_of_ble_eq_true rfl) dX9_train_1 ?_
  refine lv_if_ne (tgt := 9) hx hb dX9_train_4 (by decide) (fun c4 => ?_) (fun c4 => ?_)
  · replace h := if_f c4 h
    refine lv_aload_n hx hb dX9_train_9 rfl (lv_at hl 0 rfl) ?_
    obtain ⟨r10, hc10, h⟩ := Option.bind_eq_some_iff.mp h
    refine rcV (As := []) (rest := []) ⟨hx, hb, hml, hown, hts⟩ (c_X9_stuckSet l X mi ml ma mb hc10) ⟨w_1022, w_1024, w_26, w_58, w_1025⟩ hd_X9_stuckSet rfl rfl ⟨(Nat.le_of_ble_eq_true rfl), (Nat.le_of_ble_eq_true rfl)⟩ ⟨Nat.zero_le _, Nat.zero_le _⟩ mPre_blind (va_recv hK hP (ci := 5) rfl cM_o) (mPre_call hP hK hN) rfl rfl hl.1 (Nat.le_of_ble_eq_true rfl) dX9_train_10 ?_
    obtain ⟨r13, hc13, h⟩ := Option.bind_eq_some_iff.mp h
    refine rcS (As := [.int r10]) (rest := []) ⟨hx, hb, hml, hown, hts⟩ (c_X9_bits l r10 hc13) ⟨w_1030, w_1031, w_58, w_1032⟩ hd_X9_bits rfl rfl ⟨(Nat.le_of_ble_eq_true rfl), (Nat.le_of_ble_eq_true rfl)⟩ ⟨Nat.zero_le _, Nat.zero_le _⟩ (fun _ _ _ _ h => h) (fun _ _ _ => trivial) rfl rfl hl.1 (Nat.le_of_ble_eq_true rfl) dX9_train_13 ?_
    refine lv_istore_n (lv' := [(2, .int r13), (0, .ref (xB X 0)), (1, .int a1)]) hx hb dX9_train_16 rfl hl (by decide) rfl (fun ls hl => ?_)
    refine lv_aload_n hx hb dX9_train_17 rfl (lv_at hl 1 rfl) ?_
    refine lv_iload_n hx hb dX9_train_18 rfl (lv_at hl 2 rfl) ?_
    refine lv_iload_n hx hb dX9_train_19 rfl (lv_at hl 0 rfl) ?_
    obtain ⟨r20, mi_20, ma_20, hc20, h⟩ := bd3_e h
    refine wcV (As := [.int a1, .int r13]) (rest := []) ⟨hx, hb, hml, hown, hts⟩ (c_X9_row l X mi ml ma mb a1 r13 hc20) ⟨w_1100, w_905, w_906, w_58, w_907⟩ hd_X9_row rfl rfl ⟨(Nat.le_of_ble_eq_true rfl), (Nat.le_of_ble_eq_true rfl)⟩ ⟨Nat.zero_le _, Nat.zero_le _⟩ mPre_blind (va_recv hK hP (ci := 5) rfl cM_o) (mPre_call hP hK hN) hS (fun _ h => h) rfl rfl hl.1 (Nat.le_of_ble_eq_true rfl) dX9_train_20 (fun H locs hP _ hS => ?_)
    have hP : va_P X.1 vwCl (cM X mi_20 ml ma_20 mb) H := hP
    refine W.eq (g2 := F0 m 23 ls [.int r20]) rfl ?_
    refine lv_istore_n (lv' := [(3, .int r20), (2, .int r13), (0, .ref (xB X 0)), (1, .int a1)]) hx hb dX9_train_23 rfl hl (by decide) rfl (fun ls hl => ?_)
    refine lv_iload_n hx hb dX9_train_24 rfl (lv_at hl 1 rfl) ?_
    refine lv_if_ne (tgt := 33) hx hb dX9_train_25 (by decide) (fun c25 => ?_) (fun c25 => ?_)
    · replace h := if_f c25 h
      refine lv_aload_n hx hb dX9_train_33 rfl (lv_at hl 2 rfl) ?_
      refine lv_bipush (v := 9) hx hb dX9_train_34 (by decide) ?_
      obtain ⟨r36, hc36, h⟩ := Option.bind_eq_some_iff.mp h
      refine rcV (As := [.int (9 : Int32)]) (rest := []) ⟨hx, hb, hml, hown, hts⟩ (c_X9_hangSet l X mi_20 ml ma_20 mb (9 : Int32) hc36) ⟨w_1092, w_1094, w_34, w_58, w_1095⟩ hd_X9_hangSet rfl rfl ⟨(Nat.le_of_ble_eq_true rfl), (Nat.le_of_ble_eq_true rfl)⟩ ⟨Nat.zero_le _, Nat.zero_le _⟩ mPre_blind (va_recv hK hP (ci := 5) rfl cM_o) (mPre_call hP hK hN) rfl rfl hl.1 (Nat.le_of_ble_eq_true rfl) dX9_train_36 ?_
      obtain ⟨r39, hc39, h⟩ := Option.bind_eq_some_iff.mp h
      refine rcS (As := [.int r36]) (rest := []) ⟨hx, hb, hml, hown, hts⟩ (c_X9_lowest l r36 hc39) ⟨w_1101, w_1102, w_58, w_1103⟩ hd_X9_lowest rfl rfl ⟨(Nat.le_of_ble_eq_true rfl), (Nat.le_of_ble_eq_true rfl)⟩ ⟨Nat.zero_le _, Nat.zero_le _⟩ (fun _ _ _ _ h => h) (fun _ _ _ => trivial) rfl rfl hl.1 (Nat.le_of_ble_eq_true rfl) dX9_train_39 ?_
      refine lv_istore (lv' := [(4, .int r39), (3, .int r20), (2, .int r13), (0, .ref (xB X 0)), (1, .int a1)]) hx hb dX9_train_42 hl (by decide) rfl (fun ls hl => ?_)
      refine lv_iconst (v := 0) hx hb dX9_train_44 (by decide) ?_
      refine lv_istore (lv' := [(5, .int (0 : Int32)), (4, .int r39), (3, .int r20), (2, .int r13), (0, .ref (xB X 0)), (1, .int a1)]) hx hb dX9_train_45 hl (by decide) rfl (fun ls hl => ?_)
      exact hL47 500 a1 r13 r39 (0 : Int32) mi_20 ma_20 _ _ ls (lv_sub hl [4, 5, 3, 1, 0] rfl) hP hS h
    · replace h := if_t c25 h
      refine lv_bipush (v := 9) hx hb dX9_train_28 (by decide) ?_
      refine lv_goto (tgt := 42) hx hb dX9_train_30 (by decide) ?_
      refine lv_istore (lv' := [(4, .int (9 : Int32)), (3, .int r20), (2, .int r13), (0, .ref (xB X 0)), (1, .int a1)]) hx hb dX9_train_42 hl (by decide) rfl (fun ls hl => ?_)
      refine lv_iconst (v := 0) hx hb dX9_train_44 (by decide) ?_
      refine lv_istore (lv' := [(5, .int (0 : Int32)), (4, .int (9 : Int32)), (3, .int r20), (2, .int r13), (0, .ref (xB X 0)), (1, .int a1)]) hx hb dX9_train_45 hl (by decide) rfl (fun ls hl => ?_)
      exact hL47 500 a1 r13 (9 : Int32) (0 : Int32) mi_20 ma_20 _ _ ls (lv_sub hl [4, 5, 3, 1, 0] rfl) hP hS h
  · replace h := if_t c4 h
    refine lv_iconst (v := -1) hx hb dX9_train_7 (by decide) ?_
    cases h
    exact W.iret hx hb hr (fun t ht _ => ⟨rfl, by rw [ht]; exact hP, hS.F ht⟩) hS.2.2 dX9_train_8
set_option maxRecDepth 100000 in
set_option maxHeartbeats 4000000 in
theorem c_X9_keep (l : Launch) (X : gX) (mi : Nat → Int32) (ml : Nat → Int64) (ma : Nat → Nat → Int32) (mb : Nat → Nat → Int64) (a1 : Int32) {o0 : Int32} {o_ma : Nat → Nat → Int32} (h : X9_keep mi a1 ma = some (o0, o_ma)) : Met l yX9_keep (Cond.code yX9_keep cX9_keep 3 (some .int) :: gT) { frames := 1, cells := 0, slots := 0, locals := 25 } (va_Pc [.ref (xB X 0), .int a1] (mPre X mi ml ma mb)) (wQ (some (.int o0)) (fun H => va_P X.1 vwCl (cM X mi ml o_ma mb) H) (mA X)) 0 0 (mA X) := by
  refine Met.ofW (cc := cX9_keep) (maxL := 3) (ret := (some .int)) (by decide) rfl ?_
  intro p e s m args below meth c s₁ B hml hv
  obtain ⟨rfl, hP, hK, hN⟩ := hv
  have hx := B.exec
  have hb := B.bytes
  have hr := B.returns
  have hts := atoms_spec (ws := (Cond.code yX9_keep cX9_keep 3 (some .int) :: gT)) B.pre
  have hT : ∀ w ∈ gT, w.before _ s = true := fun w hw => hts w (List.mem_cons_of_mem _ hw)
  have hown : s.vm.findClass RX9 = some m.cls := findClass_of_methodNamed B.named
  have hlocks := B.notSynchronized
  have hS : va_S (mA X) s.heap s.heap [] := va_S.rf
  have hl := lv_entry ([.ref (xB X 0), .int a1]) (n := 3) (Nat.le_of_ble_eq_true rfl)
  rw [lg_entry_eq]
  generalize (lg_sl ([.ref (xB X 0), .int a1]) ++ List.replicate (3 - (lg_sl ([.ref (xB X 0), .int a1])).length) Slot.unset).toArray = ls at hl ⊢
  have hl : lv_has ls 3 [(0, .ref (xB X 0)), (1, .int a1)] := hl
  have hL197 : ∀ (n197 : Nat) (v1 : Int32) (v2 : Int32) (ma : Nat → Nat → Int32) (H : Heap) (locs : List Loc) (ls : Array Slot), lv_has ls 3 [(0, .ref (xB X 0)), (1, .int v1), (2, .int v2)] → va_P X.1 vwCl (cM X mi ml ma mb) H → va_S (mA X) s.heap H locs → X9_keep_197 mi n197 v1 v2 ma = some (o0, o_ma) → W p l e (headSpec (Cond.code yX9_keep cX9_keep 3 (some .int) :: gT) { frames := 1, cells := 0, slots := 0, locals := 25 }).room s m [.ref (xB X 0), .int a1].toArray below meth c H locs 0 0 (MQ below (wQ (some (.int o0)) (fun H => va_P X.1 vwCl (cM X mi ml o_ma mb) H) (mA X)) [.ref (xB X 0), .int a1].toArray s 0 0 (mA X)) (F0 m 197 ls []) := by
    intro n197
    induction n197 with
    | zero =>
      intro v1 v2 ma H locs ls hl hP hS h
      rw [X9_keep_197] at h
      cases h
    | succ n197 ih197 =>
      intro v1 v2 ma H locs ls hl hP hS h
      rw [X9_keep_197] at h
      refine lv_iload_n hx hb dX9_keep_197 rfl (lv_at hl 2 rfl) ?_
      refine lv_bipush (v := 60) hx hb dX9_keep_198 (by decide) ?_
      refine lv_icmp_ge (tgt := 226) hx hb dX9_keep_200 (by decide) (fun c200 => ?_) (fun c200 => ?_)
      · replace h := if_t c200 h
        refine lv_aload_n hx hb dX9_keep_226 rfl (lv_at hl 0 rfl) ?_
        refine rg_M_deeds hx hb hT hown hK hP w_786 dX9_keep_227 ?_
        cases h
        exact W.iret hx hb hr (fun t ht _ => ⟨rfl, by rw [ht]; exact hP, hS.F ht⟩) hS.2.2 dX9_keep_230
      · replace h := if_f c200 h
        refine lv_aload_n hx hb dX9_keep_203 rfl (lv_at hl 0 rfl) ?_
        refine rg_M_keptPastDay hx hb hT hown hK hP w_809 dX9_keep_204 ?_
        refine lv_bipush (v := 60) hx hb dX9_keep_207 (by decide) ?_
        refine lv_iload_n hx hb dX9_keep_209 rfl (lv_at hl 1 rfl) ?_
        refine lv_imul hx hb dX9_keep_210 ?_
        refine lv_iload_n hx hb dX9_keep_211 rfl (lv_at hl 2 rfl) ?_
        refine lv_iadd hx hb dX9_keep_212 ?_
        refine lv_aload_n hx hb dX9_keep_213 rfl (lv_at hl 0 rfl) ?_
        refine rg_M_pastDay hx hb hT hown hK hP w_790 dX9_keep_214 ?_
        refine lv_iload_n hx hb dX9_keep_217 rfl (lv_at hl 2 rfl) ?_
        obtain ⟨hi218, h⟩ := gd_e h
        refine ra_m8 hx hb hK hP (ib_in hi218) dX9_keep_218 ?_
        obtain ⟨hi219, h⟩ := gd_e h
        refine rs_m23 hx hb hK hP hN hS (ib_in hi219) dX9_keep_219 (fun H locs hP hS => ?_)
        generalize ema_219 : va_up ma 23 (upd (ma 23) (((60 : Int32) * v1) + v2).toNatClampNeg (ma 8 v2.toNatClampNeg)) = ma_219 at hP
        replace h := lt_g h ema_219
        refine lv_iinc (v := (v2 + (1 : Int32))) (lv' := [(2, .int (v2 + (1 : Int32))), (0, .ref (xB X 0)), (1, .int v1)]) hx hb dX9_keep_220 hl (k := 2) rfl rfl (by decide) rfl (fun ls hl => ?_)
        refine lv_goto (tgt := 197) hx hb dX9_keep_223 (by decide) ?_
        exact ih197 v1 (v2 + (1 : Int32)) ma_219 _ _ ls (lv_sub hl [1, 2, 0] rfl) hP hS h
  have hL128 : ∀ (n128 : Nat) (v1 : Int32) (v2 : Int32) (ma : Nat → Nat → Int32) (H : Heap) (locs : List Loc) (ls : Array Slot), lv_has ls 3 [(0, .ref (xB X 0)), (1, .int v1), (2, .int v2)] → va_P X.1 vwCl (cM X mi ml ma mb) H → va_S (mA X) s.heap H locs → X9_keep_128 mi n128 v1 v2 ma = some (o0, o_ma) → W p l e (headSpec (Cond.code yX9_keep cX9_keep 3 (some .int) :: gT) { frames := 1, cells := 0, slots := 0, locals := 25 }).room s m [.ref (xB X 0), .int a1].toArray below meth c H locs 0 0 (MQ below (wQ (some (.int o0)) (fun H => va_P X.1 vwCl (cM X mi ml o_ma mb) H) (mA X)) [.ref (xB X 0), .int a1].toArray s 0 0 (mA X)) (F0 m 128 ls []) := by
    intro n128
    induction n128 with
    | zero =>
      intro v1 v2 ma H locs ls hl hP hS h
      rw [X9_keep_128] at h
      cases h
    | succ n128 ih128 =>
      intro v1 v2 ma H locs ls hl hP hS h
      rw [X9_keep_128] at h
      refine lv_iload_n hx hb dX9_keep_128 rfl (lv_at hl 2 rfl) ?_
      refine lv_sipush (v := 420) hx hb dX9_keep_129 (by decide) ?_
      refine lv_icmp_ge (tgt := 195) hx hb dX9_keep_132 (by decide) (fun c132 => ?_) (fun c132 => ?_)
      · replace h := if_t c132 h
        refine lv_iconst (v := 0) hx hb dX9_keep_195 (by decide) ?_
        refine lv_istore_n (lv' := [(2, .int (0 : Int32)), (0, .ref (xB X 0)), (1, .int v1)]) hx hb dX9_keep_196 rfl hl (by decide) rfl (fun ls hl => ?_)
        exact hL197 500 v1 (0 : Int32) ma _ _ ls (lv_sub hl [1, 2, 0] rfl) hP hS h
      · replace h := if_f c132 h
        refine lv_aload_n hx hb dX9_keep_135 rfl (lv_at hl 0 rfl) ?_
        refine rg_M_keptPastHangs hx hb hT hown hK hP w_806 dX9_keep_136 ?_
        refine lv_sipush (v := 420) hx hb dX9_keep_139 (by decide) ?_
        refine lv_iload_n hx hb dX9_keep_142 rfl (lv_at hl 1 rfl) ?_
        refine lv_imul hx hb dX9_keep_143 ?_
        refine lv_iload_n hx hb dX9_keep_144 rfl (lv_at hl 2 rfl) ?_
        refine lv_iadd hx hb dX9_keep_145 ?_
        refine lv_aload_n hx hb dX9_keep_146 rfl (lv_at hl 0 rfl) ?_
        refine rg_M_pastHangs hx hb hT hown hK hP w_787 dX9_keep_147 ?_
        refine lv_iload_n hx hb dX9_keep_150 rfl (lv_at hl 2 rfl) ?_
        obtain ⟨hi151, h⟩ := gd_e h
        refine ra_m5 hx hb hK hP (ib_in hi151) dX9_keep_151 ?_
        obtain ⟨hi152, h⟩ := gd_e h
        refine rs_m20 hx hb hK hP hN hS (ib_in hi152) dX9_keep_152 (fun H locs hP hS => ?_)
        generalize ema_152 : va_up ma 20 (upd (ma 20) (((420 : Int32) * v1) + v2).toNatClampNeg (ma 5 v2.toNatClampNeg)) = ma_152 at hP
        replace h := lt_g h ema_152
        refine lv_aload_n hx hb dX9_keep_153 rfl (lv_at hl 0 rfl) ?_
        refine rg_M_keptPastHand hx hb hT hown hK hP w_807 dX9_keep_154 ?_
        refine lv_sipush (v := 420) hx hb dX9_keep_157 (by decide) ?_
        refine lv_iload_n hx hb dX9_keep_160 rfl (lv_at hl 1 rfl) ?_
        refine lv_imul hx hb dX9_keep_161 ?_
        refine lv_iload_n hx hb dX9_keep_162 rfl (lv_at hl 2 rfl) ?_
        refine lv_iadd hx hb dX9_keep_163 ?_
        refine lv_aload_n hx hb dX9_keep_164 rfl (lv_at hl 0 rfl) ?_
        refine rg_M_pastHand hx hb hT hown hK hP w_788 dX9_keep_165 ?_
        refine lv_iload_n hx hb dX9_keep_168 rfl (lv_at hl 2 rfl) ?_
        obtain ⟨hi169, h⟩ := gd_e h
        refine ra_m6 hx hb hK hP (ib_in hi169) dX9_keep_169 ?_
        obtain ⟨hi170, h⟩ := gd_e h
        refine rs_m21 hx hb hK hP hN hS (ib_in hi170) dX9_keep_170 (fun H locs hP hS => ?_)
        generalize ema_170 : va_up ma_152 21 (upd (ma_152 21) (((420 : Int32) * v1) + v2).toNatClampNeg (ma_152 6 v2.toNatClampNeg)) = ma_170 at hP
        replace h := lt_g h ema_170
        refine lv_aload_n hx hb dX9_keep_171 rfl (lv_at hl 0 rfl) ?_
        refine rg_M_keptPastLaughed hx hb hT hown hK hP w_808 dX9_keep_172 ?_
        refine lv_sipush (v := 420) hx hb dX9_keep_175 (by decide) ?_
        refine lv_iload_n hx hb dX9_keep_178 rfl (lv_at hl 1 rfl) ?_
        refine lv_imul hx hb dX9_keep_179 ?_
        refine lv_iload_n hx hb dX9_keep_180 rfl (lv_at hl 2 rfl) ?_
        refine lv_iadd hx hb dX9_keep_181 ?_
        refine lv_aload_n hx hb dX9_keep_182 rfl (lv_at hl 0 rfl) ?_
        refine rg_M_pastLaughed hx hb hT hown hK hP w_789 dX9_keep_183 ?_
        refine lv_iload_n hx hb dX9_keep_186 rfl (lv_at hl 2 rfl) ?_
        obtain ⟨hi187, h⟩ := gd_e h
        refine ra_m7 hx hb hK hP (ib_in hi187) dX9_keep_187 ?_
        obtain ⟨hi188, h⟩ := gd_e h
        refine rs_m22 hx hb hK hP hN hS (ib_in hi188) dX9_keep_188 (fun H locs hP hS => ?_)
        generalize ema_188 : va_up ma_170 22 (upd (ma_170 22) (((420 : Int32) * v1) + v2).toNatClampNeg (ma_170 7 v2.toNatClampNeg)) = ma_188 at hP
        replace h := lt_g h ema_188
        refine lv_iinc (v := (v2 + (1 : Int32))) (lv' := [(2, .int (v2 + (1 : Int32))), (0, .ref (xB X 0)), (1, .int v1)]) hx hb dX9_keep_189 hl (k := 2) rfl rfl (by decide) rfl (fun ls hl => ?_)
        refine lv_goto (tgt := 128) hx hb dX9_keep_192 (by decide) ?_
        exact ih128 v1 (v2 + (1 : Int32)) ma_188 _ _ ls (lv_sub hl [1, 2, 0] rfl) hP hS h
  have hL46 : ∀ (n46 : Nat) (v1 : Int32) (v2 : Int32) (ma : Nat → Nat → Int32) (H : Heap) (locs : List Loc) (ls : Array Slot), lv_has ls 3 [(0, .ref (xB X 0)), (1, .int v1), (2, .int v2)] → va_P X.1 vwCl (cM X mi ml ma mb) H → va_S (mA X) s.heap H locs → X9_keep_46 mi n46 v1 v2 ma = some (o0, o_ma) → W p l e (headSpec (Cond.code yX9_keep cX9_keep 3 (some .int) :: gT) { frames := 1, cells := 0, slots := 0, locals := 25 }).room s m [.ref (xB X 0), .int a1].toArray below meth c H locs 0 0 (MQ below (wQ (some (.int o0)) (fun H => va_P X.1 vwCl (cM X mi ml o_ma mb) H) (mA X)) [.ref (xB X 0), .int a1].toArray s 0 0 (mA X)) (F0 m 46 ls []) := by
    intro n46
    induction n46 with
    | zero =>
      intro v1 v2 ma H locs ls hl hP hS h
      rw [X9_keep_46] at h
      cases h
    | succ n46 ih46 =>
      intro v1 v2 ma H locs ls hl hP hS h
      rw [X9_keep_46] at h
      refine lv_iload_n hx hb dX9_keep_46 rfl (lv_at hl 2 rfl) ?_
      refine lv_bipush (v := 7) hx hb dX9_keep_47 (by decide) ?_
      refine lv_icmp_ge (tgt := 126) hx hb dX9_keep_49 (by decide) (fun c49 => ?_) (fun c49 => ?_)
      · replace h := if_t c49 h
        refine lv_iconst (v := 0) hx hb dX9_keep_126 (by decide) ?_
        refine lv_istore_n (lv' := [(2, .int (0 : Int32)), (0, .ref (xB X 0)), (1, .int v1)]) hx hb dX9_keep_127 rfl hl (by decide) rfl (fun ls hl => ?_)
        exact hL128 500 v1 (0 : Int32) ma _ _ ls (lv_sub hl [1, 2, 0] rfl) hP hS h
      · replace h := if_f c49 h
        refine lv_aload_n hx hb dX9_keep_52 rfl (lv_at hl 0 rfl) ?_
        refine rg_M_keptTaste hx hb hT hown hK hP w_802 dX9_keep_53 ?_
        refine lv_bipush (v := 7) hx hb dX9_keep_56 (by decide) ?_
        refine lv_iload_n hx hb dX9_keep_58 rfl (lv_at hl 1 rfl) ?_
        refine lv_imul hx hb dX9_keep_59 ?_
        refine lv_iload_n hx hb dX9_keep_60 rfl (lv_at hl 2 rfl) ?_
        refine lv_iadd hx hb dX9_keep_61 ?_
        refine lv_aload_n hx hb dX9_keep_62 rfl (lv_at hl 0 rfl) ?_
        refine rg_M_taste hx hb hT hown hK hP w_781 dX9_keep_63 ?_
        refine lv_iload_n hx hb dX9_keep_66 rfl (lv_at hl 2 rfl) ?_
        obtain ⟨hi67, h⟩ := gd_e h
        refine ra_m1 hx hb hK hP (ib_in hi67) dX9_keep_67 ?_
        obtain ⟨hi68, h⟩ := gd_e h
        refine rs_m16 hx hb hK hP hN hS (ib_in hi68) dX9_keep_68 (fun H locs hP hS => ?_)
        generalize ema_68 : va_up ma 16 (upd (ma 16) (((7 : Int32) * v1) + v2).toNatClampNeg (ma 1 v2.toNatClampNeg)) = ma_68 at hP
        replace h := lt_g h ema_68
        refine lv_aload_n hx hb dX9_keep_69 rfl (lv_at hl 0 rfl) ?_
        refine rg_M_keptHangs hx hb hT hown hK hP w_803 dX9_keep_70 ?_
        refine lv_bipush (v := 7) hx hb dX9_keep_73 (by decide) ?_
        refine lv_iload_n hx hb dX9_keep_75 rfl (lv_at hl 1 rfl) ?_
        refine lv_imul hx hb dX9_keep_76 ?_
        refine lv_iload_n hx hb dX9_keep_77 rfl (lv_at hl 2 rfl) ?_
        refine lv_iadd hx hb dX9_keep_78 ?_
        refine lv_aload_n hx hb dX9_keep_79 rfl (lv_at hl 0 rfl) ?_
        refine rg_M_hangs hx hb hT hown hK hP w_782 dX9_keep_80 ?_
        refine lv_iload_n hx hb dX9_keep_83 rfl (lv_at hl 2 rfl) ?_
        obtain ⟨hi84, h⟩ := gd_e h
        refine ra_m2 hx hb hK hP (ib_in hi84) dX9_keep_84 ?_
        obtain ⟨hi85, h⟩ := gd_e h
        refine rs_m17 hx hb hK hP hN hS (ib_in hi85) dX9_keep_85 (fun H locs hP hS => ?_)
        generalize ema_85 : va_up ma_68 17 (upd (ma_68 17) (((7 : Int32) * v1) + v2).toNatClampNeg (ma_68 2 v2.toNatClampNeg)) = ma_85 at hP
        replace h := lt_g h ema_85
        refine lv_aload_n hx hb dX9_keep_86 rfl (lv_at hl 0 rfl) ?_
        refine rg_M_keptHand hx hb hT hown hK hP w_804 dX9_keep_87 ?_
        refine lv_bipush (v := 7) hx hb dX9_keep_90 (by decide) ?_
        refine lv_iload_n hx hb dX9_keep_92 rfl (lv_at hl 1 rfl) ?_
        refine lv_imul hx hb dX9_keep_93 ?_
        refine lv_iload_n hx hb dX9_keep_94 rfl (lv_at hl 2 rfl) ?_
        refine lv_iadd hx hb dX9_keep_95 ?_
        refine lv_aload_n hx hb dX9_keep_96 rfl (lv_at hl 0 rfl) ?_
        refine rg_M_hand hx hb hT hown hK hP w_783 dX9_keep_97 ?_
        refine lv_iload_n hx hb dX9_keep_100 rfl (lv_at hl 2 rfl) ?_
        obtain ⟨hi101, h⟩ := gd_e h
        refine ra_m3 hx hb hK hP (ib_in hi101) dX9_keep_101 ?_
        obtain ⟨hi102, h⟩ := gd_e h
        refine rs_m18 hx hb hK hP hN hS (ib_in hi102) dX9_keep_102 (fun H locs hP hS => ?_)
        generalize ema_102 : va_up ma_85 18 (upd (ma_85 18) (((7 : Int32) * v1) + v2).toNatClampNeg (ma_85 3 v2.toNatClampNeg)) = ma_102 at hP
        replace h := lt_g h ema_102
        refine lv_aload_n hx hb dX9_keep_103 rfl (lv_at hl 0 rfl) ?_
        refine rg_M_keptLaughed hx hb hT hown hK hP w_805 dX9_keep_104 ?_
        refine lv_bipush (v := 7) hx hb dX9_keep_107 (by decide) ?_
        refine lv_iload_n hx hb dX9_keep_109 rfl (lv_at hl 1 rfl) ?_
        refine lv_imul hx hb dX9_keep_110 ?_
        refine lv_iload_n hx hb dX9_keep_111 rfl (lv_at hl 2 rfl) ?_
        refine lv_iadd hx hb dX9_keep_112 ?_
        refine lv_aload_n hx hb dX9_keep_113 rfl (lv_at hl 0 rfl) ?_
        refine rg_M_laughed hx hb hT hown hK hP w_784 dX9_keep_114 ?_
        refine lv_iload_n hx hb dX9_keep_117 rfl (lv_at hl 2 rfl) ?_
        obtain ⟨hi118, h⟩ := gd_e h
        refine ra_m4 hx hb hK hP (ib_in hi118) dX9_keep_118 ?_
        obtain ⟨hi119, h⟩ := gd_e h
        refine rs_m19 hx hb hK hP hN hS (ib_in hi119) dX9_keep_119 (fun H locs hP hS => ?_)
        generalize ema_119 : va_up ma_102 19 (upd (ma_102 19) (((7 : Int32) * v1) + v2).toNatClampNeg (ma_102 4 v2.toNatClampNeg)) = ma_119 at hP
        replace h := lt_g h ema_119
        refine lv_iinc (v := (v2 + (1 : Int32))) (lv' := [(2, .int (v2 + (1 : Int32))), (0, .ref (xB X 0)), (1, .int v1)]) hx hb dX9_keep_120 hl (k := 2) rfl rfl (by decide) rfl (fun ls hl => ?_)
        refine lv_goto (tgt := 46) hx hb dX9_keep_123 (by decide) ?_
        exact ih46 v1 (v2 + (1 : Int32)) ma_119 _ _ ls (lv_sub hl [1, 2, 0] rfl) hP hS h
  rw [X9_keep] at h
  refine lv_iload_n hx hb dX9_keep_0 rfl (lv_at hl 1 rfl) ?_
  refine lv_i2l hx hb dX9_keep_1 rfl ?_
  refine lv_lconst (v := 0) hx hb dX9_keep_2 (by decide) ?_
  refine lv_ldc2 (v := 2) hx hb hown (hT _ w_1115) dX9_keep_3 ?_
  obtain ⟨r6, hc6, h⟩ := Option.bind_eq_some_iff.mp h
  refine rcS (As := [.long a1.toInt64, .long (0 : Int64), .long (2 : Int64)]) (rest := []) ⟨hx, hb, hml, hown, hts⟩ (c_X9_in l a1.toInt64 (0 : Int64) (2 : Int64) hc6) ⟨w_912, w_913, w_58, w_914⟩ hd_X9_in rfl rfl ⟨(Nat.le_of_ble_eq_true rfl), (Nat.le_of_ble_eq_true rfl)⟩ ⟨Nat.zero_le _, Nat.zero_le _⟩ (fun _ _ _ _ h => h) (fun _ _ _ => trivial) rfl rfl hl.1 (Nat.le_of_ble_eq_true rfl) dX9_keep_6 ?_
  refine lv_if_ne (tgt := 14) hx hb dX9_keep_9 (by decide) (fun c9 => ?_) (fun c9 => ?_)
  · replace h := if_f c9 h
    refine lv_aload_n hx hb dX9_keep_14 rfl (lv_at hl 0 rfl) ?_
    refine rg_M_people hx hb hT hown hK hP w_779 dX9_keep_15 ?_
    refine lv_if_ne (tgt := 24) hx hb dX9_keep_18 (by decide) (fun c18 => ?_) (fun c18 => ?_)
    · replace h := if_f c18 h
      refine lv_aload_n hx hb dX9_keep_24 rfl (lv_at hl 0 rfl) ?_
      refine rg_M_keptDeeds hx hb hT hown hK hP w_800 dX9_keep_25 ?_
      refine lv_iload_n hx hb dX9_keep_28 rfl (lv_at hl 1 rfl) ?_
      refine lv_aload_n hx hb dX9_keep_29 rfl (lv_at hl 0 rfl) ?_
      refine rg_M_deeds hx hb hT hown hK hP w_786 dX9_keep_30 ?_
      obtain ⟨hi33, h⟩ := gd_e h
      refine rs_m14 hx hb hK hP hN hS (ib_in hi33) dX9_keep_33 (fun H locs hP hS => ?_)
      generalize ema_33 : va_up ma 14 (upd (ma 14) a1.toNatClampNeg (mi 2)) = ma_33 at hP
      replace h := lt_g h ema_33
      refine lv_aload_n hx hb dX9_keep_34 rfl (lv_at hl 0 rfl) ?_
      refine rg_M_keptDay hx hb hT hown hK hP w_801 dX9_keep_35 ?_
      refine lv_iload_n hx hb dX9_keep_38 rfl (lv_at hl 1 rfl) ?_
      refine lv_aload_n hx hb dX9_keep_39 rfl (lv_at hl 0 rfl) ?_
      refine rg_M_day hx hb hT hown hK hP w_785 dX9_keep_40 ?_
      obtain ⟨hi43, h⟩ := gd_e h
      refine rs_m15 hx hb hK hP hN hS (ib_in hi43) dX9_keep_43 (fun H locs hP hS => ?_)
      generalize ema_43 : va_up ma_33 15 (upd (ma_33 15) a1.toNatClampNeg (mi 1)) = ma_43 at hP
      replace h := lt_g h ema_43
      refine lv_iconst (v := 0) hx hb dX9_keep_44 (by decide) ?_
      refine lv_istore_n (lv' := [(2, .int (0 : Int32)), (0, .ref (xB X 0)), (1, .int a1)]) hx hb dX9_keep_45 rfl hl (by decide) rfl (fun ls hl => ?_)
      exact hL46 500 a1 (0 : Int32) ma_43 _ _ ls (lv_sub hl [1, 2, 0] rfl) hP hS h
    · replace h := if_t c18 h
      refine lv_bipush (v := -4) hx hb dX9_keep_21 (by decide) ?_
      cases h
      exact W.iret hx hb hr (fun t ht _ => ⟨rfl, by rw [ht]; exact hP, hS.F ht⟩) hS.2.2 dX9_keep_23
  · replace h := if_t c9 h
    refine lv_iconst (v := -1) hx hb dX9_keep_12 (by decide) ?_
    cases h
    exact W.iret hx hb hr (fun t ht _ => ⟨rfl, by rw [ht]; exact hP, hS.F ht⟩) hS.2.2 dX9_keep_13
set_option maxRecDepth 100000 in
set_option maxHeartbeats 4000000 in
theorem c_X9_on (l : Launch) (X : gX) (mi : Nat → Int32) (ml : Nat → Int64) (ma : Nat → Nat → Int32) (mb : Nat → Nat → Int64) (a1 : Int32) {o0 : Int32} {o_mi : Nat → Int32} {o_ma : Nat → Nat → Int32} (h : X9_on a1 mi ma = some (o0, o_mi, o_ma)) : Met l yX9_on (Cond.code yX9_on cX9_on 3 (some .int) :: gT) { frames := 1, cells := 0, slots := 0, locals := 25 } (va_Pc [.ref (xB X 0), .int a1] (mPre X mi ml ma mb)) (wQ (some (.int o0)) (fun H => va_P X.1 vwCl (cM X o_mi ml o_ma mb) H) (mA X)) 0 0 (mA X) := by
  refine Met.ofW (cc := cX9_on) (maxL := 3) (ret := (some .int)) (by decide) rfl ?_
  intro p e s m args below meth c s₁ B hml hv
  obtain ⟨rfl, hP, hK, hN⟩ := hv
  have hx := B.exec
  have hb := B.bytes
  have hr := B.returns
  have hts := atoms_spec (ws := (Cond.code yX9_on cX9_on 3 (some .int) :: gT)) B.pre
  have hT : ∀ w ∈ gT, w.before _ s = true := fun w hw => hts w (List.mem_cons_of_mem _ hw)
  have hown : s.vm.findClass RX9 = some m.cls := findClass_of_methodNamed B.named
  have hlocks := B.notSynchronized
  have hS : va_S (mA X) s.heap s.heap [] := va_S.rf
  have hl := lv_entry ([.ref (xB X 0), .int a1]) (n := 3) (Nat.le_of_ble_eq_true rfl)
  rw [lg_entry_eq]
  generalize (lg_sl ([.ref (xB X 0), .int a1]) ++ List.replicate (3 - (lg_sl ([.ref (xB X 0), .int a1])).length) Slot.unset).toArray = ls at hl ⊢
  have hl : lv_has ls 3 [(0, .ref (xB X 0)), (1, .int a1)] := hl
  have hL202 : ∀ (n202 : Nat) (v1 : Int32) (v2 : Int32) (mi : Nat → Int32) (ma : Nat → Nat → Int32) (H : Heap) (locs : List Loc) (ls : Array Slot), lv_has ls 3 [(0, .ref (xB X 0)), (1, .int v1), (2, .int v2)] → va_P X.1 vwCl (cM X mi ml ma mb) H → va_S (mA X) s.heap H locs → X9_on_202 n202 v1 v2 mi ma = some (o0, o_mi, o_ma) → W p l e (headSpec (Cond.code yX9_on cX9_on 3 (some .int) :: gT) { frames := 1, cells := 0, slots := 0, locals := 25 }).room s m [.ref (xB X 0), .int a1].toArray below meth c H locs 0 0 (MQ below (wQ (some (.int o0)) (fun H => va_P X.1 vwCl (cM X o_mi ml o_ma mb) H) (mA X)) [.ref (xB X 0), .int a1].toArray s 0 0 (mA X)) (F0 m 202 ls []) := by
    intro n202
    induction n202 with
    | zero =>
      intro v1 v2 mi ma H locs ls hl hP hS h
      rw [X9_on_202] at h
      cases h
    | succ n202 ih202 =>
      intro v1 v2 mi ma H locs ls hl hP hS h
      rw [X9_on_202] at h
      refine lv_iload_n hx hb dX9_on_202 rfl (lv_at hl 2 rfl) ?_
      refine lv_bipush (v := 60) hx hb dX9_on_203 (by decide) ?_
      refine lv_icmp_ge (tgt := 231) hx hb dX9_on_205 (by decide) (fun c205 => ?_) (fun c205 => ?_)
      · replace h := if_t c205 h
        refine lv_aload_n hx hb dX9_on_231 rfl (lv_at hl 0 rfl) ?_
        refine rg_M_deeds hx hb hT hown hK hP w_786 dX9_on_232 ?_
        cases h
        exact W.iret hx hb hr (fun t ht _ => ⟨rfl, by rw [ht]; exact hP, hS.F ht⟩) hS.2.2 dX9_on_235
      · replace h := if_f c205 h
        refine lv_aload_n hx hb dX9_on_208 rfl (lv_at hl 0 rfl) ?_
        refine rg_M_pastDay hx hb hT hown hK hP w_790 dX9_on_209 ?_
        refine lv_iload_n hx hb dX9_on_212 rfl (lv_at hl 2 rfl) ?_
        refine lv_aload_n hx hb dX9_on_213 rfl (lv_at hl 0 rfl) ?_
        refine rg_M_keptPastDay hx hb hT hown hK hP w_809 dX9_on_214 ?_
        refine lv_bipush (v := 60) hx hb dX9_on_217 (by decide) ?_
        refine lv_iload_n hx hb dX9_on_219 rfl (lv_at hl 1 rfl) ?_
        refine lv_imul hx hb dX9_on_220 ?_
        refine lv_iload_n hx hb dX9_on_221 rfl (lv_at hl 2 rfl) ?_
        refine lv_iadd hx hb dX9_on_222 ?_
        obtain ⟨hi223, h⟩ := gd_e h
        refine ra_m23 hx hb hK hP (ib_in hi223) dX9_on_223 ?_
        obtain ⟨hi224, h⟩ := gd_e h
        refine rs_m8 hx hb hK hP hN hS (ib_in hi224) dX9_on_224 (fun H locs hP hS => ?_)
        generalize ema_224 : va_up ma 8 (upd (ma 8) v2.toNatClampNeg (ma 23 (((60 : Int32) * v1) + v2).toNatClampNeg)) = ma_224 at hP
        replace h := lt_g h ema_224
        refine lv_iinc (v := (v2 + (1 : Int32))) (lv' := [(2, .int (v2 + (1 : Int32))), (0, .ref (xB X 0)), (1, .int v1)]) hx hb dX9_on_225 hl (k := 2) rfl rfl (by decide) rfl (fun ls hl => ?_)
        refine lv_goto (tgt := 202) hx hb dX9_on_228 (by decide) ?_
        exact ih202 v1 (v2 + (1 : Int32)) mi ma_224 _ _ ls (lv_sub hl [1, 2, 0] rfl) hP hS h
  have hL133 : ∀ (n133 : Nat) (v1 : Int32) (v2 : Int32) (mi : Nat → Int32) (ma : Nat → Nat → Int32) (H : Heap) (locs : List Loc) (ls : Array Slot), lv_has ls 3 [(0, .ref (xB X 0)), (1, .int v1), (2, .int v2)] → va_P X.1 vwCl (cM X mi ml ma mb) H → va_S (mA X) s.heap H locs → X9_on_133 n133 v1 v2 mi ma = some (o0, o_mi, o_ma) → W p l e (headSpec (Cond.code yX9_on cX9_on 3 (some .int) :: gT) { frames := 1, cells := 0, slots := 0, locals := 25 }).room s m [.ref (xB X 0), .int a1].toArray below meth c H locs 0 0 (MQ below (wQ (some (.int o0)) (fun H => va_P X.1 vwCl (cM X o_mi ml o_ma mb) H) (mA X)) [.ref (xB X 0), .int a1].toArray s 0 0 (mA X)) (F0 m 133 ls []) := by
    intro n133
    induction n133 with
    | zero =>
      intro v1 v2 mi ma H locs ls hl hP hS h
      rw [X9_on_133] at h
      cases h
    | succ n133 ih133 =>
      intro v1 v2 mi ma H locs ls hl hP hS h
      rw [X9_on_133] at h
      refine lv_iload_n hx hb dX9_on_133 rfl (lv_at hl 2 rfl) ?_
      refine lv_sipush (v := 420) hx hb dX9_on_134 (by decide) ?_
      refine lv_icmp_ge (tgt := 200) hx hb dX9_on_137 (by decide) (fun c137 => ?_) (fun c137 => ?_)
      · replace h := if_t c137 h
        refine lv_iconst (v := 0) hx hb dX9_on_200 (by decide) ?_
        refine lv_istore_n (lv' := [(2, .int (0 : Int32)), (0, .ref (xB X 0)), (1, .int v1)]) hx hb dX9_on_201 rfl hl (by decide) rfl (fun ls hl => ?_)
        exact hL202 500 v1 (0 : Int32) mi ma _ _ ls (lv_sub hl [1, 2, 0] rfl) hP hS h
      · replace h := if_f c137 h
        refine lv_aload_n hx hb dX9_on_140 rfl (lv_at hl 0 rfl) ?_
        refine rg_M_pastHangs hx hb hT hown hK hP w_787 dX9_on_141 ?_
        refine lv_iload_n hx hb dX9_on_144 rfl (lv_at hl 2 rfl) ?_
        refine lv_aload_n hx hb dX9_on_145 rfl (lv_at hl 0 rfl) ?_
        refine rg_M_keptPastHangs hx hb hT hown hK hP w_806 dX9_on_146 ?_
        refine lv_sipush (v := 420) hx hb dX9_on_149 (by decide) ?_
        refine lv_iload_n hx hb dX9_on_152 rfl (lv_at hl 1 rfl) ?_
        refine lv_imul hx hb dX9_on_153 ?_
        refine lv_iload_n hx hb dX9_on_154 rfl (lv_at hl 2 rfl) ?_
        refine lv_iadd hx hb dX9_on_155 ?_
        obtain ⟨hi156, h⟩ := gd_e h
        refine ra_m20 hx hb hK hP (ib_in hi156) dX9_on_156 ?_
        obtain ⟨hi157, h⟩ := gd_e h
        refine rs_m5 hx hb hK hP hN hS (ib_in hi157) dX9_on_157 (fun H locs hP hS => ?_)
        generalize ema_157 : va_up ma 5 (upd (ma 5) v2.toNatClampNeg (ma 20 (((420 : Int32) * v1) + v2).toNatClampNeg)) = ma_157 at hP
        replace h := lt_g h ema_157
        refine lv_aload_n hx hb dX9_on_158 rfl (lv_at hl 0 rfl) ?_
        refine rg_M_pastHand hx hb hT hown hK hP w_788 dX9_on_159 ?_
        refine lv_iload_n hx hb dX9_on_162 rfl (lv_at hl 2 rfl) ?_
        refine lv_aload_n hx hb dX9_on_163 rfl (lv_at hl 0 rfl) ?_
        refine rg_M_keptPastHand hx hb hT hown hK hP w_807 dX9_on_164 ?_
        refine lv_sipush (v := 420) hx hb dX9_on_167 (by decide) ?_
        refine lv_iload_n hx hb dX9_on_170 rfl (lv_at hl 1 rfl) ?_
        refine lv_imul hx hb dX9_on_171 ?_
        refine lv_iload_n hx hb dX9_on_172 rfl (lv_at hl 2 rfl) ?_
        refine lv_iadd hx hb dX9_on_173 ?_
        obtain ⟨hi174, h⟩ := gd_e h
        refine ra_m21 hx hb hK hP (ib_in hi174) dX9_on_174 ?_
        obtain ⟨hi175, h⟩ := gd_e h
        refine rs_m6 hx hb hK hP hN hS (ib_in hi175) dX9_on_175 (fun H locs hP hS => ?_)
        generalize ema_175 : va_up ma_157 6 (upd (ma_157 6) v2.toNatClampNeg (ma_157 21 (((420 : Int32) * v1) + v2).toNatClampNeg)) = ma_175 at hP
        replace h := lt_g h ema_175
        refine lv_aload_n hx hb dX9_on_176 rfl (lv_at hl 0 rfl) ?_
        refine rg_M_pastLaughed hx hb hT hown hK hP w_789 dX9_on_177 ?_
        refine lv_iload_n hx hb dX9_on_180 rfl (lv_at hl 2 rfl) ?_
        refine lv_aload_n hx hb dX9_on_181 rfl (lv_at hl 0 rfl) ?_
        refine rg_M_keptPastLaughed hx hb hT hown hK hP w_808 dX9_on_182 ?_
        refine lv_sipush (v := 420) hx hb dX9_on_185 (by decide) ?_
        refine lv_iload_n hx hb dX9_on_188 rfl (lv_at hl 1 rfl) ?_
        refine lv_imul hx hb dX9_on_189 ?_
        refine lv_iload_n hx hb dX9_on_190 rfl (lv_at hl 2 rfl) ?_
        refine lv_iadd hx hb dX9_on_191 ?_
        obtain ⟨hi192, h⟩ := gd_e h
        refine ra_m22 hx hb hK hP (ib_in hi192) dX9_on_192 ?_
        obtain ⟨hi193, h⟩ := gd_e h
        refine rs_m7 hx hb hK hP hN hS (ib_in hi193) dX9_on_193 (fun H locs hP hS => ?_)
        generalize ema_193 : va_up ma_175 7 (upd (ma_175 7) v2.toNatClampNeg (ma_175 22 (((420 : Int32) * v1) + v2).toNatClampNeg)) = ma_193 at hP
        replace h := lt_g h ema_193
        refine lv_iinc (v := (v2 + (1 : Int32))) (lv' := [(2, .int (v2 + (1 : Int32))), (0, .ref (xB X 0)), (1, .int v1)]) hx hb dX9_on_194 hl (k := 2) rfl rfl (by decide) rfl (fun ls hl => ?_)
        refine lv_goto (tgt := 133) hx hb dX9_on_197 (by decide) ?_
        exact ih133 v1 (v2 + (1 : Int32)) mi ma_193 _ _ ls (lv_sub hl [1, 2, 0] rfl) hP hS h
  have hL51 : ∀ (n51 : Nat) (v1 : Int32) (v2 : Int32) (mi : Nat → Int32) (ma : Nat → Nat → Int32) (H : Heap) (locs : List Loc) (ls : Array Slot), lv_has ls 3 [(0, .ref (xB X 0)), (1, .int v1), (2, .int v2)] → va_P X.1 vwCl (cM X mi ml ma mb) H → va_S (mA X) s.heap H locs → X9_on_51 n51 v1 v2 mi ma = some (o0, o_mi, o_ma) → W p l e (headSpec (Cond.code yX9_on cX9_on 3 (some .int) :: gT) { frames := 1, cells := 0, slots := 0, locals := 25 }).room s m [.ref (xB X 0), .int a1].toArray below meth c H locs 0 0 (MQ below (wQ (some (.int o0)) (fun H => va_P X.1 vwCl (cM X o_mi ml o_ma mb) H) (mA X)) [.ref (xB X 0), .int a1].toArray s 0 0 (mA X)) (F0 m 51 ls []) := by
    intro n51
    induction n51 with
    | zero =>
      intro v1 v2 mi ma H locs ls hl hP hS h
      rw [X9_on_51] at h
      cases h
    | succ n51 ih51 =>
      intro v1 v2 mi ma H locs ls hl hP hS h
      rw [X9_on_51] at h
      refine lv_iload_n hx hb dX9_on_51 rfl (lv_at hl 2 rfl) ?_
      refine lv_bipush (v := 7) hx hb dX9_on_52 (by decide) ?_
      refine lv_icmp_ge (tgt := 131) hx hb dX9_on_54 (by decide) (fun c54 => ?_) (fun c54 => ?_)
      · replace h := if_t c54 h
        refine lv_iconst (v := 0) hx hb dX9_on_131 (by decide) ?_
        refine lv_istore_n (lv' := [(2, .int (0 : Int32)), (0, .ref (xB X 0)), (1, .int v1)]) hx hb dX9_on_132 rfl hl (by decide) rfl (fun ls hl => ?_)
        exact hL133 500 v1 (0 : Int32) mi ma _ _ ls (lv_sub hl [1, 2, 0] rfl) hP hS h
      · replace h := if_f c54 h
        refine lv_aload_n hx hb dX9_on_57 rfl (lv_at hl 0 rfl) ?_
        refine rg_M_taste hx hb hT hown hK hP w_781 dX9_on_58 ?_
        refine lv_iload_n hx hb dX9_on_61 rfl (lv_at hl 2 rfl) ?_
        refine lv_aload_n hx hb dX9_on_62 rfl (lv_at hl 0 rfl) ?_
        refine rg_M_keptTaste hx hb hT hown hK hP w_802 dX9_on_63 ?_
        refine lv_bipush (v := 7) hx hb dX9_on_66 (by decide) ?_
        refine lv_iload_n hx hb dX9_on_68 rfl (lv_at hl 1 rfl) ?_
        refine lv_imul hx hb dX9_on_69 ?_
        refine lv_iload_n hx hb dX9_on_70 rfl (lv_at hl 2 rfl) ?_
        refine lv_iadd hx hb dX9_on_71 ?_
        obtain ⟨hi72, h⟩ := gd_e h
        refine ra_m16 hx hb hK hP (ib_in hi72) dX9_on_72 ?_
        obtain ⟨hi73, h⟩ := gd_e h
        refine rs_m1 hx hb hK hP hN hS (ib_in hi73) dX9_on_73 (fun H locs hP hS => ?_)
        generalize ema_73 : va_up ma 1 (upd (ma 1) v2.toNatClampNeg (ma 16 (((7 : Int32) * v1) + v2).toNatClampNeg)) = ma_73 at hP
        replace h := lt_g h ema_73
        refine lv_aload_n hx hb dX9_on_74 rfl (lv_at hl 0 rfl) ?_
        refine rg_M_hangs hx hb hT hown hK hP w_782 dX9_on_75 ?_
        refine lv_iload_n hx hb dX9_on_78 rfl (lv_at hl 2 rfl) ?_
        refine lv_aload_n hx hb dX9_on_79 rfl (lv_at hl 0 rfl) ?_
        refine rg_M_keptHangs hx hb hT hown hK hP w_803 dX9_on_80 ?_
        refine lv_bipush (v := 7) hx hb dX9_on_83 (by decide) ?_
        refine lv_iload_n hx hb dX9_on_85 rfl (lv_at hl 1 rfl) ?_
        refine lv_imul hx hb dX9_on_86 ?_
        refine lv_iload_n hx hb dX9_on_87 rfl (lv_at hl 2 rfl) ?_
        refine lv_iadd hx hb dX9_on_88 ?_
        obtain ⟨hi89, h⟩ := gd_e h
        refine ra_m17 hx hb hK hP (ib_in hi89) dX9_on_89 ?_
        obtain ⟨hi90, h⟩ := gd_e h
        refine rs_m2 hx hb hK hP hN hS (ib_in hi90) dX9_on_90 (fun H locs hP hS => ?_)
        generalize ema_90 : va_up ma_73 2 (upd (ma_73 2) v2.toNatClampNeg (ma_73 17 (((7 : Int32) * v1) + v2).toNatClampNeg)) = ma_90 at hP
        replace h := lt_g h ema_90
        refine lv_aload_n hx hb dX9_on_91 rfl (lv_at hl 0 rfl) ?_
        refine rg_M_hand hx hb hT hown hK hP w_783 dX9_on_92 ?_
        refine lv_iload_n hx hb dX9_on_95 rfl (lv_at hl 2 rfl) ?_
        refine lv_aload_n hx hb dX9_on_96 rfl (lv_at hl 0 rfl) ?_
        refine rg_M_keptHand hx hb hT hown hK hP w_804 dX9_on_97 ?_
        refine lv_bipush (v := 7) hx hb dX9_on_100 (by decide) ?_
        refine lv_iload_n hx hb dX9_on_102 rfl (lv_at hl 1 rfl) ?_
        refine lv_imul hx hb dX9_on_103 ?_
        refine lv_iload_n hx hb dX9_on_104 rfl (lv_at hl 2 rfl) ?_
        refine lv_iadd hx hb dX9_on_105 ?_
        obtain ⟨hi106, h⟩ := gd_e h
        refine ra_m18 hx hb hK hP (ib_in hi106) dX9_on_106 ?_
        obtain ⟨hi107, h⟩ := gd_e h
        refine rs_m3 hx hb hK hP hN hS (ib_in hi107) dX9_on_107 (fun H locs hP hS => ?_)
        generalize ema_107 : va_up ma_90 3 (upd (ma_90 3) v2.toNatClampNeg (ma_90 18 (((7 : Int32) * v1) + v2).toNatClampNeg)) = ma_107 at hP
        replace h := lt_g h ema_107
        refine lv_aload_n hx hb dX9_on_108 rfl (lv_at hl 0 rfl) ?_
        refine rg_M_laughed hx hb hT hown hK hP w_784 dX9_on_109 ?_
        refine lv_iload_n hx hb dX9_on_112 rfl (lv_at hl 2 rfl) ?_
        refine lv_aload_n hx hb dX9_on_113 rfl (lv_at hl 0 rfl) ?_
        refine rg_M_keptLaughed hx hb hT hown hK hP w_805 dX9_on_114 ?_
        refine lv_bipush (v := 7) hx hb dX9_on_117 (by decide) ?_
        refine lv_iload_n hx hb dX9_on_119 rfl (lv_at hl 1 rfl) ?_
        refine lv_imul hx hb dX9_on_120 ?_
        refine lv_iload_n hx hb dX9_on_121 rfl (lv_at hl 2 rfl) ?_
        refine lv_iadd hx hb dX9_on_122 ?_
        obtain ⟨hi123, h⟩ := gd_e h
        refine ra_m19 hx hb hK hP (ib_in hi123) dX9_on_123 ?_
        obtain ⟨hi124, h⟩ := gd_e h
        refine rs_m4 hx hb hK hP hN hS (ib_in hi124) dX9_on_124 (fun H locs hP hS => ?_)
        generalize ema_124 : va_up ma_107 4 (upd (ma_107 4) v2.toNatClampNeg (ma_107 19 (((7 : Int32) * v1) + v2).toNatClampNeg)) = ma_124 at hP
        replace h := lt_g h ema_124
        refine lv_iinc (v := (v2 + (1 : Int32))) (lv' := [(2, .int (v2 + (1 : Int32))), (0, .ref (xB X 0)), (1, .int v1)]) hx hb dX9_on_125 hl (k := 2) rfl rfl (by decide) rfl (fun ls hl => ?_)
        refine lv_goto (tgt := 51) hx hb dX9_on_128 (by decide) ?_
        exact ih51 v1 (v2 + (1 : Int32)) mi ma_124 _ _ ls (lv_sub hl [1, 2, 0] rfl) hP hS h
  rw [X9_on] at h
  refine lv_iload_n hx hb dX9_on_0 rfl (lv_at hl 1 rfl) ?_
  refine lv_i2l hx hb dX9_on_1 rfl ?_
  refine lv_lconst (v := 0) hx hb dX9_on_2 (by decide) ?_
  refine lv_ldc2 (v := 2) hx hb hown (hT _ w_1115) dX9_on_3 ?_
  obtain ⟨r6, hc6, h⟩ := Option.bind_eq_some_iff.mp h
  refine rcS (As := [.long a1.toInt64, .long (0 : Int64), .long (2 : Int64)]) (rest := []) ⟨hx, hb, hml, hown, hts⟩ (c_X9_in l a1.toInt64 (0 : Int64) (2 : Int64) hc6) ⟨w_912, w_913, w_58, w_914⟩ hd_X9_in rfl rfl ⟨(Nat.le_of_ble_eq_true rfl), (Nat.le_of_ble_eq_true rfl)⟩ ⟨Nat.zero_le _, Nat.zero_le _⟩ (fun _ _ _ _ h => h) (fun _ _ _ => trivial) rfl rfl hl.1 (Nat.le_of_ble_eq_true rfl) dX9_on_6 ?_
  refine lv_if_ne (tgt := 14) hx hb dX9_on_9 (by decide) (fun c9 => ?_) (fun c9 => ?_)
  · replace h := if_f c9 h
    refine lv_aload_n hx hb dX9_on_14 rfl (lv_at hl 0 rfl) ?_
    refine rg_M_keptDeeds hx hb hT hown hK hP w_800 dX9_on_15 ?_
    refine lv_iload_n hx hb dX9_on_18 rfl (lv_at hl 1 rfl) ?_
    obtain ⟨hi19, h⟩ := gd_e h
    refine ra_m14 hx hb hK hP (ib_in hi19) dX9_on_19 ?_
    refine lv_if_ge (tgt := 29) hx hb dX9_on_20 (by decide) (fun c20 => ?_) (fun c20 => ?_)
    · replace h := if_t c20 h
      refine lv_aload_n hx hb dX9_on_29 rfl (lv_at hl 0 rfl) ?_
      refine lv_aload_n hx hb dX9_on_30 rfl (lv_at hl 0 rfl) ?_
      refine rg_M_keptDeeds hx hb hT hown hK hP w_800 dX9_on_31 ?_
      refine lv_iload_n hx hb dX9_on_34 rfl (lv_at hl 1 rfl) ?_
      obtain ⟨hi35, h⟩ := gd_e h
      refine ra_m14 hx hb hK hP (ib_in hi35) dX9_on_35 ?_
      refine rp_M_deeds hx hb hT hown hK hP hN hS w_786 dX9_on_36 (fun H locs hP hS => ?_)
      generalize emi_36 : va_up mi 2 (ma 14 a1.toNatClampNeg) = mi_36 at hP
      replace h := lt_g h emi_36
      refine lv_aload_n hx hb dX9_on_39 rfl (lv_at hl 0 rfl) ?_
      refine lv_aload_n hx hb dX9_on_40 rfl (lv_at hl 0 rfl) ?_
      refine rg_M_keptDay hx hb hT hown hK hP w_801 dX9_on_41 ?_
      refine lv_iload_n hx hb dX9_on_44 rfl (lv_at hl 1 rfl) ?_
      obtain ⟨hi45, h⟩ := gd_e h
      refine ra_m15 hx hb hK hP (ib_in hi45) dX9_on_45 ?_
      refine rp_M_day hx hb hT hown hK hP hN hS w_785 dX9_on_46 (fun H locs hP hS => ?_)
      generalize emi_46 : va_up mi_36 1 (ma 15 a1.toNatClampNeg) = mi_46 at hP
      replace h := lt_g h emi_46
      refine lv_iconst (v := 0) hx hb dX9_on_49 (by decide) ?_
      refine lv_istore_n (lv' := [(2, .int (0 : Int32)), (0, .ref (xB X 0)), (1, .int a1)]) hx hb dX9_on_50 rfl hl (by decide) rfl (fun ls hl => ?_)
      exact hL51 500 a1 (0 : Int32) mi_46 ma _ _ ls (lv_sub hl [1, 2, 0] rfl) hP hS h
    · replace h := if_f c20 h
      refine lv_aload_n hx hb dX9_on_23 rfl (lv_at hl 0 rfl) ?_
      refine lv_iconst (v := 1) hx hb dX9_on_24 (by decide) ?_
      obtain ⟨r25, mi_25, ma_25, hc25, h⟩ := bd3_e h
      refine wcV (As := [.int (1 : Int32)]) (rest := []) ⟨hx, hb, hml, hown, hts⟩ (c_X9_finds l X mi ml ma mb (1 : Int32) hc25) ⟨w_915, w_917, w_12, w_58, w_918⟩ hd_X9_finds rfl rfl ⟨(Nat.le_of_ble_eq_true rfl), (Nat.le_of_ble_eq_true rfl)⟩ ⟨Nat.zero_le _, Nat.zero_le _⟩ mPre_blind (va_recv hK hP (ci := 5) rfl cM_o) (mPre_call hP hK hN) hS (fun _ h => h) rfl rfl hl.1 (Nat.le_of_ble_eq_true rfl) dX9_on_25 (fun H locs hP _ hS => ?_)
      have hP : va_P X.1 vwCl (cM X mi_25 ml ma_25 mb) H := hP
      refine W.eq (g2 := F0 m 28 ls [.int r25]) rfl ?_
      cases h
      exact W.iret hx hb hr (fun t ht _ => ⟨rfl, by rw [ht]; exact hP, hS.F ht⟩) hS.2.2 dX9_on_28
  · replace h := if_t c9 h
    refine lv_iconst (v := -1) hx hb dX9_on_12 (by decide) ?_
    cases h
    exact W.iret hx hb hr (fun t ht _ => ⟨rfl, by rw [ht]; exact hP, hS.F ht⟩) hS.2.2 dX9_on_13
set_option maxRecDepth 100000 in
set_option maxHeartbeats 4000000 in
theorem c_X9_tooMany (l : Launch) (X : gX) (mi : Nat → Int32) (ml : Nat → Int64) (ma : Nat → Nat → Int32) (mb : Nat → Nat → Int64) (a1 : Int32) {o0 : Int32} (h : X9_tooMany mi ma a1 = some o0) : Met l yX9_tooMany (Cond.code yX9_tooMany cX9_tooMany 3 (some .int) :: gT) { frames := 1, cells := 0, slots := 0, locals := 23 } (va_Pc [.ref (xB X 0), .int a1] (mPre X mi ml ma mb)) (k2_QcV (.int o0)) 0 0 (fun _ => False) := by
  refine Met.ofW (cc := cX9_tooMany) (maxL := 3) (ret := (some .int)) (by decide) rfl ?_
  intro p e s m args below meth c s₁ B hml hv
  obtain ⟨rfl, hP, hK, hN⟩ := hv
  have hx := B.exec
  have hb := B.bytes
  have hr := B.returns
  have hts := atoms_spec (ws := (Cond.code yX9_tooMany cX9_tooMany 3 (some .int) :: gT)) B.pre
  have hT : ∀ w ∈ gT, w.before _ s = true := fun w hw => hts w (List.mem_cons_of_mem _ hw)
  have hown : s.vm.findClass RX9 = some m.cls := findClass_of_methodNamed B.named
  have hlocks := B.notSynchronized
  have hS : va_S (mA X) s.heap s.heap [] := va_S.rf
  have hl := lv_entry ([.ref (xB X 0), .int a1]) (n := 3) (Nat.le_of_ble_eq_true rfl)
  rw [lg_entry_eq]
  generalize (lg_sl ([.ref (xB X 0), .int a1]) ++ List.replicate (3 - (lg_sl ([.ref (xB X 0), .int a1])).length) Slot.unset).toArray = ls at hl ⊢
  have hl : lv_has ls 3 [(0, .ref (xB X 0)), (1, .int a1)] := hl
  have hL18 : ∀ (n18 : Nat) (v1 : Int32) (v2 : Int32) (ls : Array Slot), lv_has ls 3 [(0, .ref (xB X 0)), (1, .int v1), (2, .int v2)] → X9_tooMany_18 mi ma n18 v1 v2 = some o0 → W p l e (headSpec (Cond.code yX9_tooMany cX9_tooMany 3 (some .int) :: gT) { frames := 1, cells := 0, slots := 0, locals := 23 }).room s m [.ref (xB X 0), .int a1].toArray below meth c s.heap [] 0 0 (MQ below (k2_QcV (.int o0)) [.ref (xB X 0), .int a1].toArray s 0 0 (fun _ => False)) (F0 m 18 ls []) := by
    intro n18
    induction n18 with
    | zero =>
      intro v1 v2 ls hl h
      rw [X9_tooMany_18] at h
      cases h
    | succ n18 ih18 =>
      intro v1 v2 ls hl h
      rw [X9_tooMany_18] at h
      refine lv_iload_n hx hb dX9_tooMany_18 rfl (lv_at hl 2 rfl) ?_
      refine lv_aload_n hx hb dX9_tooMany_19 rfl (lv_at hl 0 rfl) ?_
      refine rg_M_people hx hb hT hown hK hP w_779 dX9_tooMany_20 ?_
      refine lv_icmp_ge (tgt := 46) hx hb dX9_tooMany_23 (by decide) (fun c23 => ?_) (fun c23 => ?_)
      · replace h := if_t c23 h
        refine lv_bipush (v := -9) hx hb dX9_tooMany_46 (by decide) ?_
        cases h
        exact W.iret hx hb hr (fun t ht _ => ⟨rfl, ht⟩) (fun _ hq => by cases hq) dX9_tooMany_48
      · replace h := if_f c23 h
        refine lv_aload_n hx hb dX9_tooMany_26 rfl (lv_at hl 0 rfl) ?_
        refine lv_iload_n hx hb dX9_tooMany_27 rfl (lv_at hl 2 rfl) ?_
        obtain ⟨r28, hc28, h⟩ := Option.bind_eq_some_iff.mp h
        refine rcV (As := [.int v2]) (rest := []) ⟨hx, hb, hml, hown, hts⟩ (c_X9_hangSet l X mi ml ma mb v2 hc28) ⟨w_1092, w_1094, w_34, w_58, w_1095⟩ hd_X9_hangSet rfl rfl ⟨(Nat.le_of_ble_eq_true rfl), (Nat.le_of_ble_eq_true rfl)⟩ ⟨Nat.zero_le _, Nat.zero_le _⟩ mPre_blind (va_recv hK hP (ci := 5) rfl cM_o) (mPre_call hP hK hN) rfl rfl hl.1 (Nat.le_of_ble_eq_true rfl) dX9_tooMany_28 ?_
        obtain ⟨r31, hc31, h⟩ := Option.bind_eq_some_iff.mp h
        refine rcS (As := [.int r28]) (rest := []) ⟨hx, hb, hml, hown, hts⟩ (c_X9_bits l r28 hc31) ⟨w_1030, w_1031, w_58, w_1032⟩ hd_X9_bits rfl rfl ⟨(Nat.le_of_ble_eq_true rfl), (Nat.le_of_ble_eq_true rfl)⟩ ⟨Nat.zero_le _, Nat.zero_le _⟩ (fun _ _ _ _ h => h) (fun _ _ _ => trivial) rfl rfl hl.1 (Nat.le_of_ble_eq_true rfl) dX9_tooMany_31 ?_
        refine lv_iload_n hx hb dX9_tooMany_34 rfl (lv_at hl 1 rfl) ?_
        refine lv_icmp_le (tgt := 40) hx hb dX9_tooMany_35 (by decide) (fun c35 => ?_) (fun c35 => ?_)
        · replace h := if_t c35 h
          refine lv_iinc (v := (v2 + (1 : Int32))) (lv' := [(2, .int (v2 + (1 : Int32))), (0, .ref (xB X 0)), (1, .int v1)]) hx hb dX9_tooMany_40 hl (k := 2) rfl rfl (by decide) rfl (fun ls hl => ?_)
          refine lv_goto (tgt := 18) hx hb dX9_tooMany_43 (by decide) ?_
          exact ih18 v1 (v2 + (1 : Int32)) ls (lv_sub hl [1, 2, 0] rfl) h
        · replace h := if_f c35 h
          refine lv_iload_n hx hb dX9_tooMany_38 rfl (lv_at hl 2 rfl) ?_
          cases h
          exact W.iret hx hb hr (fun t ht _ => ⟨rfl, ht⟩) (fun _ hq => by cases hq) dX9_tooMany_39
  rw [X9_tooMany] at h
  refine lv_aload_n hx hb dX9_tooMany_0 rfl (lv_at hl 0 rfl) ?_
  refine lv_bipush (v := 9) hx hb dX9_tooMany_1 (by decide) ?_
  obtain ⟨r3, hc3, h⟩ := Option.bind_eq_some_iff.mp h
  refine rcV (As := [.int (9 : Int32)]) (rest := []) ⟨hx, hb, hml, hown, hts⟩ (c_X9_hangSet l X mi ml ma mb (9 : Int32) hc3) ⟨w_1092, w_1094, w_34, w_58, w_1095⟩ hd_X9_hangSet rfl rfl ⟨(Nat.le_of_ble_eq_true rfl), (Nat.le_of_ble_eq_true rfl)⟩ ⟨Nat.zero_le _, Nat.zero_le _⟩ mPre_blind (va_recv hK hP (ci := 5) rfl cM_o) (mPre_call hP hK hN) rfl rfl hl.1 (Nat.le_of_ble_eq_true rfl) dX9_tooMany_3 ?_
  obtain ⟨r6, hc6, h⟩ := Option.bind_eq_some_iff.mp h
  refine rcS (As := [.int r3]) (rest := []) ⟨hx, hb, hml, hown, hts⟩ (c_X9_bits l r3 hc6) ⟨w_1030, w_1031, w_58, w_1032⟩ hd_X9_bits rfl rfl ⟨(Nat.le_of_ble_eq_true rfl), (Nat.le_of_ble_eq_true rfl)⟩ ⟨Nat.zero_le _, Nat.zero_le _⟩ (fun _ _ _ _ h => h) (fun _ _ _ => trivial) rfl rfl hl.1 (Nat.le_of_ble_eq_true rfl) dX9_tooMany_6 ?_
  refine lv_iload_n hx hb dX9_tooMany_9 rfl (lv_at hl 1 rfl) ?_
  refine lv_icmp_le (tgt := 16) hx hb dX9_tooMany_10 (by decide) (fun c10 => ?_) (fun c10 => ?_)
  · replace h := if_t c10 h
    refine lv_iconst (v := 0) hx hb dX9_tooMany_16 (by decide) ?_
    refine lv_istore_n (lv' := [(2, .int (0 : Int32)), (0, .ref (xB X 0)), (1, .int a1)]) hx hb dX9_tooMany_17 rfl hl (by decide) rfl (fun ls hl => ?_)
    exact hL18 500 a1 (0 : Int32) ls (lv_sub hl [1, 2, 0] rfl) h
  · replace h := if_f c10 h
    refine lv_bipush (v := 9) hx hb dX9_tooMany_13 (by decide) ?_
    cases h
    exact W.iret hx hb hr (fun t ht _ => ⟨rfl, ht⟩) (fun _ hq => by cases hq) dX9_tooMany_15
