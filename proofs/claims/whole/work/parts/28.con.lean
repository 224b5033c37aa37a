set_option maxRecDepth 100000 in
set_option maxHeartbeats 4000000 in
theorem c_X9_readVillage (l : Launch) (X : gX) (mi : Nat → Int32) (ml : Nat → Int64) (ma : Nat → Nat → Int32) (mb : Nat → Nat → Int64) (a1 : Int32) {o_mi : Nat → Int32} {o_ma : Nat → Nat → Int32} (h : X9_readVillage a1 mi ma = some (o_mi, o_ma)) : Met l yX9_readVillage (Cond.code yX9_readVillage cX9_readVillage 2 none :: gT) { frames := 3, cells := 0, slots := 0, locals := 73 } (va_Pc [.ref (xB X 0), .int a1] (mPre X mi ml ma mb)) (wQ none (fun H => va_P X.1 vwCl (cM X o_mi ml o_ma mb) H) (mA X)) 0 0 (mA X) := by
  refine Met.ofW (cc := cX9_readVillage) (maxL := 2) (ret := none) (by decide) rfl ?_
  intro p e s m args below meth c s₁ B hml hv
  obtain ⟨rfl, hP, hK, hN⟩ := hv
  have hx := B.exec
  have hb := B.bytes
  have hr := B.returns
  have hts := atoms_spec (ws := (Cond.code yX9_readVillage cX9_readVillage 2 none :: gT)) B.pre
  have hT : ∀ w ∈ gT, w.before _ s = true := fun w hw => hts w (List.mem_cons_of_mem _ hw)
  have hown : s.vm.findClass RX9 = some m.cls := findClass_of_methodNamed B.named
  have hlocks := B.notSynchronized
  have hS : va_S (mA X) s.heap s.heap [] := va_S.rf
  have hl := lv_entry ([.ref (xB X 0), .int a1]) (n := 2) (Nat.le_of_ble_eq_true rfl)
  rw [lg_entry_eq]
  generalize (lg_sl ([.ref (xB X 0), .int a1]) ++ List.replicate (2 - (lg_sl ([.ref (xB X 0), .int a1])).length) Slot.unset).toArray = ls at hl ⊢
  have hl : lv_has ls 2 [(0, .ref (xB X 0)), (1, .int a1)] := hl
  have hL20 : ∀ (n20 : Nat) (v1 : Int32) (mi : Nat → Int32) (ma : Nat → Nat → Int32) (H : Heap) (locs : List Loc) (ls : Array Slot), lv_has ls 2 [(0, .ref (xB X 0)), (1, .int v1)] → va_P X.1 vwCl (cM X mi ml ma mb) H → va_S (mA X) s.heap H locs → X9_readVillage_20 n20 v1 mi ma = some (o_mi, o_ma) → W p l e (headSpec (Cond.code yX9_readVillage cX9_readVillage 2 none :: gT) { frames := 3, cells := 0, slots := 0, locals := 73 }).room s m [.ref (xB X 0), .int a1].toArray below meth c H locs 0 0 (MQ below (wQ none (fun H => va_P X.1 vwCl (cM X o_mi ml o_ma mb) H) (mA X)) [.ref (xB X 0), .int a1].toArray s 0 0 (mA X)) (F0 m 20 ls []) := by
    intro n20
    induction n20 with
    | zero =>
      intro v1 mi ma H locs ls hl hP hS h
      rw [X9_readVillage_20] at h
      cases h
    | succ n20 ih20 =>
      intro v1 mi ma H locs ls hl hP hS h
      rw [X9_readVillage_20] at h
      refine lv_aload_n hx hb dX9_readVillage_20 rfl (lv_at hl 0 rfl) ?_
      refine rg_M_faultAt hx hb hT hown hK hP w_812 dX9_readVillage_21 ?_
      refine lv_if_ge (tgt := 53) hx hb dX9_readVillage_24 (by decide) (fun c24 => ?_) (fun c24 => ?_)
      · replace h := if_t c24 h
        cases h
        exact W.vret hx hb hr (fun t ht _ => ⟨rfl, by rw [ht]; exact hP, hS.F ht⟩) hS.2.2 dX9_readVillage_53
      · replace h := if_f c24 h
        refine lv_aload_n hx hb dX9_readVillage_27 rfl (lv_at hl 0 rfl) ?_
        refine rg_M_textAt hx hb hT hown hK hP w_811 dX9_readVillage_28 ?_
        refine lv_aload_n hx hb dX9_readVillage_31 rfl (lv_at hl 0 rfl) ?_
        refine rg_M_textSize hx hb hT hown hK hP w_798 dX9_readVillage_32 ?_
        refine lv_iload_n hx hb dX9_readVillage_35 rfl (lv_at hl 1 rfl) ?_
        obtain ⟨hi36, h⟩ := gd_e h
        refine ra_m12 hx hb hK hP (ib_in hi36) dX9_readVillage_36 ?_
        refine lv_icmp_ge (tgt := 53) hx hb dX9_readVillage_37 (by decide) (fun c37 => ?_) (fun c37 => ?_)
        · replace h := if_t c37 h
          cases h
          exact W.vret hx hb hr (fun t ht _ => ⟨rfl, by rw [ht]; exact hP, hS.F ht⟩) hS.2.2 dX9_readVillage_53
        · replace h := if_f c37 h
          refine lv_aload_n hx hb dX9_readVillage_40 rfl (lv_at hl 0 rfl) ?_
          refine lv_iload_n hx hb dX9_readVillage_41 rfl (lv_at hl 1 rfl) ?_
          obtain ⟨mi_42, ma_42, hc42, h⟩ := bd2_e h
          refine wcV (As := [.int v1]) (rest := []) ⟨hx, hb, hml, hown, hts⟩ (c_X9_readOne l X mi ml ma mb v1 hc42) ⟨w_967, w_969, w_16, w_58, w_970⟩ hd_X9_readOne rfl rfl ⟨(Nat.le_of_ble_eq_true rfl), (Nat.le_of_ble_eq_true rfl)⟩ ⟨Nat.zero_le _, Nat.zero_le _⟩ mPre_blind (va_recv hK hP (ci := 5) rfl cM_o) (mPre_call hP hK hN) hS (fun _ h => h) rfl rfl hl.1 (Nat.le_of_ble_eq_true rfl) dX9_readVillage_42 (fun H locs hP _ hS => ?_)
          have hP : va_P X.1 vwCl (cM X mi_42 ml ma_42 mb) H := hP
          refine W.eq (g2 := F0 m 45 ls []) rfl ?_
          refine lv_aload_n hx hb dX9_readVillage_45 rfl (lv_at hl 0 rfl) ?_
          refine lv_iload_n hx hb dX9_readVillage_46 rfl (lv_at hl 1 rfl) ?_
          obtain ⟨mi_47, hc47, h⟩ := Option.bind_eq_some_iff.mp h
          refine wcV (As := [.int v1]) (rest := []) ⟨hx, hb, hml, hown, hts⟩ (c_X9_skip l X mi_42 ml ma_42 mb v1 hc47) ⟨w_959, w_961, w_14, w_58, w_962⟩ hd_X9_skip rfl rfl ⟨(Nat.le_of_ble_eq_true rfl), (Nat.le_of_ble_eq_true rfl)⟩ ⟨Nat.zero_le _, Nat.zero_le _⟩ mPre_blind (va_recv hK hP (ci := 5) rfl cM_o) (mPre_call hP hK hN) hS (fun _ h => h) rfl rfl hl.1 (Nat.le_of_ble_eq_true rfl) dX9_readVillage_47 (fun H locs hP _ hS => ?_)
          have hP : va_P X.1 vwCl (cM X mi_47 ml ma_42 mb) H := hP
          refine W.eq (g2 := F0 m 50 ls []) rfl ?_
          refine lv_goto (tgt := 20) hx hb dX9_readVillage_50 (by decide) ?_
          exact ih20 v1 mi_47 ma_42 _ _ ls (lv_sub hl [0, 1] rfl) hP hS h
  rw [X9_readVillage] at h
  refine lv_aload_n hx hb dX9_readVillage_0 rfl (lv_at hl 0 rfl) ?_
  refine lv_iconst (v := 0) hx hb dX9_readVillage_1 (by decide) ?_
  refine rp_M_textAt hx hb hT hown hK hP hN hS w_811 dX9_readVillage_2 (fun H locs hP hS => ?_)
  generalize emi_2 : va_up mi 5 (0 : Int32) = mi_2 at hP
  replace h := lt_g h emi_2
  refine lv_aload_n hx hb dX9_readVillage_5 rfl (lv_at hl 0 rfl) ?_
  refine lv_iconst (v := -1) hx hb dX9_readVillage_6 (by decide) ?_
  refine rp_M_faultAt hx hb hT hown hK hP hN hS w_812 dX9_readVillage_7 (fun H locs hP hS => ?_)
  generalize emi_7 : va_up mi_2 6 (-1 : Int32) = mi_7 at hP
  replace h := lt_g h emi_7
  refine lv_aload_n hx hb dX9_readVillage_10 rfl (lv_at hl 0 rfl) ?_
  refine lv_iconst (v := 0) hx hb dX9_readVillage_11 (by decide) ?_
  refine rp_M_readPeople hx hb hT hown hK hP hN hS w_813 dX9_readVillage_12 (fun H locs hP hS => ?_)
  generalize emi_12 : va_up mi_7 7 (0 : Int32) = mi_12 at hP
  replace h := lt_g h emi_12
  refine lv_aload_n hx hb dX9_readVillage_15 rfl (lv_at hl 0 rfl) ?_
  refine lv_iload_n hx hb dX9_readVillage_16 rfl (lv_at hl 1 rfl) ?_
  obtain ⟨mi_17, hc17, h⟩ := Option.bind_eq_some_iff.mp h
  refine wcV (As := [.int a1]) (rest := []) ⟨hx, hb, hml, hown, hts⟩ (c_X9_skip l X mi_12 ml ma mb a1 hc17) ⟨w_959, w_961, w_14, w_58, w_962⟩ hd_X9_skip rfl rfl ⟨(Nat.le_of_ble_eq_true rfl), (Nat.le_of_ble_eq_true rfl)⟩ ⟨Nat.zero_le _, Nat.zero_le _⟩ mPre_blind (va_recv hK hP (ci := 5) rfl cM_o) (mPre_call hP hK hN) hS (fun _ h => h) rfl rfl hl.1 (Nat.le_of_ble_eq_true rfl) dX9_readVillage_17 (fun H locs hP _ hS => ?_)
  have hP : va_P X.1 vwCl (cM X mi_17 ml ma mb) H := hP
  refine W.eq (g2 := F0 m 20 ls []) rfl ?_
  exact hL20 500 a1 mi_17 ma _ _ ls (lv_sub hl [0, 1] rfl) hP hS h
set_option maxRecDepth 100000 in
set_option maxHeartbeats 4000000 in
theorem c_X9_fault (l : Launch) (X : gX) (mi : Nat → Int32) (ml : Nat → Int64) (ma : Nat → Nat → Int32) (mb : Nat → Nat → Int64) (a1 : Int32) {o0 : Int32} {o_mi : Nat → Int32} {o_ma : Nat → Nat → Int32} (h : X9_fault a1 mi ma = some (o0, o_mi, o_ma)) : Met l yX9_fault (Cond.code yX9_fault cX9_fault 2 (some .int) :: gT) { frames := 4, cells := 0, slots := 0, locals := 94 } (va_Pc [.ref (xB X 0), .int a1] (mPre X mi ml ma mb)) (wQ (some (.int o0)) (fun H => va_P X.1 vwCl (cM X o_mi ml o_ma mb) H) (mA X)) 0 0 (mA X) := by
  refine Met.ofW (cc := cX9_fault) (maxL := 2) (ret := (some .int)) (by decide) rfl ?_
  intro p e s m args below meth c s₁ B hml hv
  obtain ⟨rfl, hP, hK, hN⟩ := hv
  have hx := B.exec
  have hb := B.bytes
  have hr := B.returns
  have hts := atoms_spec (ws := (Cond.code yX9_fault cX9_fault 2 (some .int) :: gT)) B.pre
  have hT : ∀ w ∈ gT, w.before _ s = true := fun w hw => hts w (List.mem_cons_of_mem _ hw)
  have hown : s.vm.findClass RX9 = some m.cls := findClass_of_methodNamed B.named
  have hlocks := B.notSynchronized
  have hS : va_S (mA X) s.heap s.heap [] := va_S.rf
  have hl := lv_entry ([.ref (xB X 0), .int a1]) (n := 2) (Nat.le_of_ble_eq_true rfl)
  rw [lg_entry_eq]
  generalize (lg_sl ([.ref (xB X 0), .int a1]) ++ List.replicate (2 - (lg_sl ([.ref (xB X 0), .int a1])).length) Slot.unset).toArray = ls at hl ⊢
  have hl : lv_has ls 2 [(0, .ref (xB X 0)), (1, .int a1)] := hl
  rw [X9_fault] at h
  refine lv_iload_n hx hb dX9_fault_0 rfl (lv_at hl 1 rfl) ?_
  obtain ⟨r1, hc1, h⟩ := Option.bind_eq_some_iff.mp h
  refine rcS (As := [.int a1]) (rest := []) ⟨hx, hb, hml, hown, hts⟩ (c_X9_isText l a1 hc1) ⟨w_943, w_944, w_58, w_945⟩ hd_X9_isText rfl rfl ⟨(Nat.le_of_ble_eq_true rfl), (Nat.le_of_ble_eq_true rfl)⟩ ⟨Nat.zero_le _, Nat.zero_le _⟩ (fun _ _ _ _ h => h) (fun _ _ _ => trivial) rfl rfl hl.1 (Nat.le_of_ble_eq_true rfl) dX9_fault_1 ?_
  refine lv_if_ne (tgt := 9) hx hb dX9_fault_4 (by decide) (fun c4 => ?_) (fun c4 => ?_)
  · replace h := if_f c4 h
    refine lv_aload_n hx hb dX9_fault_9 rfl (lv_at hl 0 rfl) ?_
    refine rg_M_textSize hx hb hT hown hK hP w_798 dX9_fault_10 ?_
    refine lv_iload_n hx hb dX9_fault_13 rfl (lv_at hl 1 rfl) ?_
    obtain ⟨hi14, h⟩ := gd_e h
    refine ra_m12 hx hb hK hP (ib_in hi14) dX9_fault_14 ?_
    refine lv_if_ge (tgt := 24) hx hb dX9_fault_15 (by decide) (fun c15 => ?_) (fun c15 => ?_)
    · replace h := if_t c15 h
      refine lv_aload_n hx hb dX9_fault_24 rfl (lv_at hl 0 rfl) ?_
      refine lv_iload_n hx hb dX9_fault_25 rfl (lv_at hl 1 rfl) ?_
      obtain ⟨mi_26, ma_26, hc26, h⟩ := bd2_e h
      refine wcV (As := [.int a1]) (rest := []) ⟨hx, hb, hml, hown, hts⟩ (c_X9_readVillage l X mi ml ma mb a1 hc26) ⟨w_955, w_957, w_13, w_58, w_958⟩ hd_X9_readVillage rfl rfl ⟨(Nat.le_of_ble_eq_true rfl), (Nat.le_of_ble_eq_true rfl)⟩ ⟨Nat.zero_le _, Nat.zero_le _⟩ mPre_blind (va_recv hK hP (ci := 5) rfl cM_o) (mPre_call hP hK hN) hS (fun _ h => h) rfl rfl hl.1 (Nat.le_of_ble_eq_true rfl) dX9_fault_26 (fun H locs hP _ hS => ?_)
      have hP : va_P X.1 vwCl (cM X mi_26 ml ma_26 mb) H := hP
      refine W.eq (g2 := F0 m 29 ls []) rfl ?_
      refine lv_aload_n hx hb dX9_fault_29 rfl (lv_at hl 0 rfl) ?_
      refine rg_M_faultAt hx hb hT hown hK hP w_812 dX9_fault_30 ?_
      refine lv_if_ge (tgt := 41) hx hb dX9_fault_33 (by decide) (fun c33 => ?_) (fun c33 => ?_)
      · replace h := if_t c33 h
        refine lv_aload_n hx hb dX9_fault_41 rfl (lv_at hl 0 rfl) ?_
        refine rg_M_faultAt hx hb hT hown hK hP w_812 dX9_fault_42 ?_
        cases h
        exact W.iret hx hb hr (fun t ht _ => ⟨rfl, by rw [ht]; exact hP, hS.F ht⟩) hS.2.2 dX9_fault_45
      · replace h := if_f c33 h
        refine lv_bipush (v := -9) hx hb dX9_fault_36 (by decide) ?_
        refine lv_goto (tgt := 45) hx hb dX9_fault_38 (by decide) ?_
        cases h
        exact W.iret hx hb hr (fun t ht _ => ⟨rfl, by rw [ht]; exact hP, hS.F ht⟩) hS.2.2 dX9_fault_45
    · replace h := if_f c15 h
      refine lv_aload_n hx hb dX9_fault_18 rfl (lv_at hl 0 rfl) ?_
      refine lv_iconst (v := 1) hx hb dX9_fault_19 (by decide) ?_
      obtain ⟨r20, mi_20, ma_20, hc20, h⟩ := bd3_e h
      refine wcV (As := [.int (1 : Int32)]) (rest := []) ⟨hx, hb, hml, hown, hts⟩ (c_X9_finds l X mi ml ma mb (1 : Int32) hc20) ⟨w_915, w_917, w_12, w_58, w_918⟩ hd_X9_finds rfl rfl ⟨(Nat.le_of_ble_eq_true rfl), (Nat.le_of_ble_eq_true rfl)⟩ ⟨Nat.zero_le _, Nat.zero_le _⟩ mPre_blind (va_recv hK hP (ci := 5) rfl cM_o) (mPre_call hP hK hN) hS (fun _ h => h) rfl rfl hl.1 (Nat.le_of_ble_eq_true rfl) dX9_fault_20 (fun H locs hP _ hS => ?_)
      have hP : va_P X.1 vwCl (cM X mi_20 ml ma_20 mb) H := hP
      refine W.eq (g2 := F0 m 23 ls [.int r20]) rfl ?_
      cases h
      exact W.iret hx hb hr (fun t ht _ => ⟨rfl, by rw [ht]; exact hP, hS.F ht⟩) hS.2.2 dX9_fault_23
  · replace h := if_t c4 h
    refine lv_iconst (v := -1) hx hb dX9_fault_7 (by decide) ?_
    cases h
    exact W.iret hx hb hr (fun t ht _ => ⟨rfl, by rw [ht]; exact hP, hS.F ht⟩) hS.2.2 dX9_fault_8
set_option maxRecDepth 100000 in
set_option maxHeartbeats 4000000 in
theorem c_X9_village (l : Launch) (X : gX) (mi : Nat → Int32) (ml : Nat → Int64) (ma : Nat → Nat → Int32) (mb : Nat → Nat → Int64) (a1 : Int32) {o0 : Int32} {o_mi : Nat → Int32} {o_ma : Nat → Nat → Int32} (h : X9_village a1 mi ma = some (o0, o_mi, o_ma)) : Met l yX9_village (Cond.code yX9_village cX9_village 3 (some .int) :: gT) { frames := 4, cells := 0, slots := 0, locals := 94 } (va_Pc [.ref (xB X 0), .int a1] (mPre X mi ml ma mb)) (wQ (some (.int o0)) (fun H => va_P X.1 vwCl (cM X o_mi ml o_ma mb) H) (mA X)) 0 0 (mA X) := by
  refine Met.ofW (cc := cX9_village) (maxL := 3) (ret := (some .int)) (by decide) rfl ?_
  intro p e s m args below meth c s₁ B hml hv
  obtain ⟨rfl, hP, hK, hN⟩ := hv
  have hx := B.exec
  have hb := B.bytes
  have hr := B.returns
  have hts := atoms_spec (ws := (Cond.code yX9_village cX9_village 3 (some .int) :: gT)) B.pre
  have hT : ∀ w ∈ gT, w.before _ s = true := fun w hw => hts w (List.mem_cons_of_mem _ hw)
  have hown : s.vm.findClass RX9 = some m.cls := findClass_of_methodNamed B.named
  have hlocks := B.notSynchronized
  have hS : va_S (mA X) s.heap s.heap [] := va_S.rf
  have hl := lv_entry ([.ref (xB X 0), .int a1]) (n := 3) (Nat.le_of_ble_eq_true rfl)
  rw [lg_entry_eq]
  generalize (lg_sl ([.ref (xB X 0), .int a1]) ++ List.replicate (3 - (lg_sl ([.ref (xB X 0), .int a1])).length) Slot.unset).toArray = ls at hl ⊢
  have hl : lv_has ls 3 [(0, .ref (xB X 0)), (1, .int a1)] := hl
  have hL128 : ∀ (n128 : Nat) (v2 : Int32) (mi : Nat → Int32) (ma : Nat → Nat → Int32) (H : Heap) (locs : List Loc) (ls : Array Slot), lv_has ls 3 [(0, .ref (xB X 0)), (2, .int v2)] → va_P X.1 vwCl (cM X mi ml ma mb) H → va_S (mA X) s.heap H locs → X9_village_128 n128 v2 mi ma = some (o0, o_mi, o_ma) → W p l e (headSpec (Cond.code yX9_village cX9_village 3 (some .int) :: gT) { frames := 4, cells := 0, slots := 0, locals := 94 }).room s m [.ref (xB X 0), .int a1].toArray below meth c H locs 0 0 (MQ below (wQ (some (.int o0)) (fun H => va_P X.1 vwCl (cM X o_mi ml o_ma mb) H) (mA X)) [.ref (xB X 0), .int a1].toArray s 0 0 (mA X)) (F0 m 128 ls []) := by
    intro n128
    induction n128 with
    | zero =>
      intro v2 mi ma H locs ls hl hP hS h
      rw [X9_village_128] at h
      cases h
    | succ n128 ih128 =>
      intro v2 mi ma H locs ls hl hP hS h
      rw [X9_village_128] at h
      refine lv_iload_n hx hb dX9_village_128 rfl (lv_at hl 1 rfl) ?_
      refine lv_iconst (v := 3) hx hb dX9_village_129 (by decide) ?_
      refine lv_icmp_ge (tgt := 146) hx hb dX9_village_130 (by decide) (fun c130 => ?_) (fun c130 => ?_)
      · replace h := if_t c130 h
        refine lv_aload_n hx hb dX9_village_146 rfl (lv_at hl 0 rfl) ?_
        refine rg_M_people hx hb hT hown hK hP w_779 dX9_village_147 ?_
        cases h
        exact W.iret hx hb hr (fun t ht _ => ⟨rfl, by rw [ht]; exact hP, hS.F ht⟩) hS.2.2 dX9_village_150
      · replace h := if_f c130 h
        refine lv_aload_n hx hb dX9_village_133 rfl (lv_at hl 0 rfl) ?_
        refine rg_M_keptDeeds hx hb hT hown hK hP w_800 dX9_village_134 ?_
        refine lv_iload_n hx hb dX9_village_137 rfl (lv_at hl 1 rfl) ?_
        refine lv_iconst (v := -1) hx hb dX9_village_138 (by decide) ?_
        obtain ⟨hi139, h⟩ := gd_e h
        refine rs_m14 hx hb hK hP hN hS (ib_in hi139) dX9_village_139 (fun H locs hP hS => ?_)
        generalize ema_139 : va_up ma 14 (upd (ma 14) v2.toNatClampNeg (-1 : Int32)) = ma_139 at hP
        replace h := lt_g h ema_139
        refine lv_iinc (v := (v2 + (1 : Int32))) (lv' := [(2, .int (v2 + (1 : Int32))), (0, .ref (xB X 0))]) hx hb dX9_village_140 hl (k := 1) rfl rfl (by decide) rfl (fun ls hl => ?_)
        refine lv_goto (tgt := 128) hx hb dX9_village_143 (by decide) ?_
        exact ih128 (v2 + (1 : Int32)) mi ma_139 _ _ ls (lv_sub hl [1, 0] rfl) hP hS h
  have hL59 : ∀ (n59 : Nat) (v2 : Int32) (mi : Nat → Int32) (ma : Nat → Nat → Int32) (H : Heap) (locs : List Loc) (ls : Array Slot), lv_has ls 3 [(0, .ref (xB X 0)), (2, .int v2)] → va_P X.1 vwCl (cM X mi ml ma mb) H → va_S (mA X) s.heap H locs → X9_village_59 n59 v2 mi ma = some (o0, o_mi, o_ma) → W p l e (headSpec (Cond.code yX9_village cX9_village 3 (some .int) :: gT) { frames := 4, cells := 0, slots := 0, locals := 94 }).room s m [.ref (xB X 0), .int a1].toArray below meth c H locs 0 0 (MQ below (wQ (some (.int o0)) (fun H => va_P X.1 vwCl (cM X o_mi ml o_ma mb) H) (mA X)) [.ref (xB X 0), .int a1].toArray s 0 0 (mA X)) (F0 m 59 ls []) := by
    intro n59
    induction n59 with
    | zero =>
      intro v2 mi ma H locs ls hl hP hS h
      rw [X9_village_59] at h
      cases h
    | succ n59 ih59 =>
      intro v2 mi ma H locs ls hl hP hS h
      rw [X9_village_59] at h
      refine lv_iload_n hx hb dX9_village_59 rfl (lv_at hl 1 rfl) ?_
      refine lv_aload_n hx hb dX9_village_60 rfl (lv_at hl 0 rfl) ?_
      refine rg_M_people hx hb hT hown hK hP w_779 dX9_village_61 ?_
      refine lv_icmp_ge (tgt := 126) hx hb dX9_village_64 (by decide) (fun c64 => ?_) (fun c64 => ?_)
      · replace h := if_t c64 h
        refine lv_iconst (v := 0) hx hb dX9_village_126 (by decide) ?_
        refine lv_istore_n (lv' := [(2, .int (0 : Int32)), (0, .ref (xB X 0))]) hx hb dX9_village_127 rfl hl (by decide) rfl (fun ls hl => ?_)
        exact hL128 500 (0 : Int32) mi ma _ _ ls (lv_sub hl [1, 0] rfl) hP hS h
      · replace h := if_f c64 h
        refine lv_aload_n hx hb dX9_village_67 rfl (lv_at hl 0 rfl) ?_
        refine rg_M_kind hx hb hT hown hK hP w_780 dX9_village_68 ?_
        refine lv_iload_n hx hb dX9_village_71 rfl (lv_at hl 1 rfl) ?_
        refine lv_aload_n hx hb dX9_village_72 rfl (lv_at hl 0 rfl) ?_
        refine rg_M_readKind hx hb hT hown hK hP w_814 dX9_village_73 ?_
        refine lv_iload_n hx hb dX9_village_76 rfl (lv_at hl 1 rfl) ?_
        obtain ⟨hi77, h⟩ := gd_e h
        refine ra_m25 hx hb hK hP (ib_in hi77) dX9_village_77 ?_
        obtain ⟨hi78, h⟩ := gd_e h
        refine rs_m0 hx hb hK hP hN hS (ib_in hi78) dX9_village_78 (fun H locs hP hS => ?_)
        generalize ema_78 : va_up ma 0 (upd (ma 0) v2.toNatClampNeg (ma 25 v2.toNatClampNeg)) = ma_78 at hP
        replace h := lt_g h ema_78
        refine lv_aload_n hx hb dX9_village_79 rfl (lv_at hl 0 rfl) ?_
        refine rg_M_taste hx hb hT hown hK hP w_781 dX9_village_80 ?_
        refine lv_iload_n hx hb dX9_village_83 rfl (lv_at hl 1 rfl) ?_
        refine lv_aload_n hx hb dX9_village_84 rfl (lv_at hl 0 rfl) ?_
        refine rg_M_readTaste hx hb hT hown hK hP w_815 dX9_village_85 ?_
        refine lv_iload_n hx hb dX9_village_88 rfl (lv_at hl 1 rfl) ?_
        obtain ⟨hi89, h⟩ := gd_e h
        refine ra_m26 hx hb hK hP (ib_in hi89) dX9_village_89 ?_
        obtain ⟨hi90, h⟩ := gd_e h
        refine rs_m1 hx hb hK hP hN hS (ib_in hi90) dX9_village_90 (fun H locs hP hS => ?_)
        generalize ema_90 : va_up ma_78 1 (upd (ma_78 1) v2.toNatClampNeg (ma_78 26 v2.toNatClampNeg)) = ma_90 at hP
        replace h := lt_g h ema_90
        refine lv_aload_n hx hb dX9_village_91 rfl (lv_at hl 0 rfl) ?_
        refine rg_M_laughed hx hb hT hown hK hP w_784 dX9_village_92 ?_
        refine lv_iload_n hx hb dX9_village_95 rfl (lv_at hl 1 rfl) ?_
        refine lv_aload_n hx hb dX9_village_96 rfl (lv_at hl 0 rfl) ?_
        refine rg_M_readDays hx hb hT hown hK hP w_816 dX9_village_97 ?_
        refine lv_iload_n hx hb dX9_village_100 rfl (lv_at hl 1 rfl) ?_
        obtain ⟨hi101, h⟩ := gd_e h
        refine ra_m27 hx hb hK hP (ib_in hi101) dX9_village_101 ?_
        refine lv_ineg hx hb dX9_village_102 ?_
        obtain ⟨hi103, h⟩ := gd_e h
        refine rs_m4 hx hb hK hP hN hS (ib_in hi103) dX9_village_103 (fun H locs hP hS => ?_)
        generalize ema_103 : va_up ma_90 4 (upd (ma_90 4) v2.toNatClampNeg (-(ma_90 27 v2.toNatClampNeg))) = ma_103 at hP
        replace h := lt_g h ema_103
        refine lv_aload_n hx hb dX9_village_104 rfl (lv_at hl 0 rfl) ?_
        refine rg_M_hangs hx hb hT hown hK hP w_782 dX9_village_105 ?_
        refine lv_iload_n hx hb dX9_village_108 rfl (lv_at hl 1 rfl) ?_
        refine lv_bipush (v := -9) hx hb dX9_village_109 (by decide) ?_
        obtain ⟨hi111, h⟩ := gd_e h
        refine rs_m2 hx hb hK hP hN hS (ib_in hi111) dX9_village_111 (fun H locs hP hS => ?_)
        generalize ema_111 : va_up ma_103 2 (upd (ma_103 2) v2.toNatClampNeg (-9 : Int32)) = ma_111 at hP
        replace h := lt_g h ema_111
        refine lv_aload_n hx hb dX9_village_112 rfl (lv_at hl 0 rfl) ?_
        refine rg_M_hand hx hb hT hown hK hP w_783 dX9_village_113 ?_
        refine lv_iload_n hx hb dX9_village_116 rfl (lv_at hl 1 rfl) ?_
        refine lv_bipush (v := -9) hx hb dX9_village_117 (by decide) ?_
        obtain ⟨hi119, h⟩ := gd_e h
        refine rs_m3 hx hb hK hP hN hS (ib_in hi119) dX9_village_119 (fun H locs hP hS => ?_)
        generalize ema_119 : va_up ma_111 3 (upd (ma_111 3) v2.toNatClampNeg (-9 : Int32)) = ma_119 at hP
        replace h := lt_g h ema_119
        refine lv_iinc (v := (v2 + (1 : Int32))) (lv' := [(2, .int (v2 + (1 : Int32))), (0, .ref (xB X 0))]) hx hb dX9_village_120 hl (k := 1) rfl rfl (by decide) rfl (fun ls hl => ?_)
        refine lv_goto (tgt := 59) hx hb dX9_village_123 (by decide) ?_
        exact ih59 (v2 + (1 : Int32)) mi ma_119 _ _ ls (lv_sub hl [1, 0] rfl) hP hS h
  rw [X9_village] at h
  refine lv_iload_n hx hb dX9_village_0 rfl (lv_at hl 1 rfl) ?_
  obtain ⟨r1, hc1, h⟩ := Option.bind_eq_some_iff.mp h
  refine rcS (As := [.int a1]) (rest := []) ⟨hx, hb, hml, hown, hts⟩ (c_X9_isText l a1 hc1) ⟨w_943, w_944, w_58, w_945⟩ hd_X9_isText rfl rfl ⟨(Nat.le_of_ble_eq_true rfl), (Nat.le_of_ble_eq_true rfl)⟩ ⟨Nat.zero_le _, Nat.zero_le _⟩ (fun _ _ _ _ h => h) (fun _ _ _ => trivial) rfl rfl hl.1 (Nat.le_of_ble_eq_true rfl) dX9_village_1 ?_
  refine lv_if_ne (tgt := 9) hx hb dX9_village_4 (by decide) (fun c4 => ?_) (fun c4 => ?_)
  · replace h := if_f c4 h
    refine lv_aload_n hx hb dX9_village_9 rfl (lv_at hl 0 rfl) ?_
    refine rg_M_textSize hx hb hT hown hK hP w_798 dX9_village_10 ?_
    refine lv_iload_n hx hb dX9_village_13 rfl (lv_at hl 1 rfl) ?_
    obtain ⟨hi14, h⟩ := gd_e h
    refine ra_m12 hx hb hK hP (ib_in hi14) dX9_village_14 ?_
    refine lv_if_ge (tgt := 24) hx hb dX9_village_15 (by decide) (fun c15 => ?_) (fun c15 => ?_)
    · replace h := if_t c15 h
      refine lv_aload_n hx hb dX9_village_24 rfl (lv_at hl 0 rfl) ?_
      refine lv_iload_n hx hb dX9_village_25 rfl (lv_at hl 1 rfl) ?_
      obtain ⟨mi_26, ma_26, hc26, h⟩ := bd2_e h
      refine wcV (As := [.int a1]) (rest := []) ⟨hx, hb, hml, hown, hts⟩ (c_X9_readVillage l X mi ml ma mb a1 hc26) ⟨w_955, w_957, w_13, w_58, w_958⟩ hd_X9_readVillage rfl rfl ⟨(Nat.le_of_ble_eq_true rfl), (Nat.le_of_ble_eq_true rfl)⟩ ⟨Nat.zero_le _, Nat.zero_le _⟩ mPre_blind (va_recv hK hP (ci := 5) rfl cM_o) (mPre_call hP hK hN) hS (fun _ h => h) rfl rfl hl.1 (Nat.le_of_ble_eq_true rfl) dX9_village_26 (fun H locs hP _ hS => ?_)
      have hP : va_P X.1 vwCl (cM X mi_26 ml ma_26 mb) H := hP
      refine W.eq (g2 := F0 m 29 ls []) rfl ?_
      refine lv_aload_n hx hb dX9_village_29 rfl (lv_at hl 0 rfl) ?_
      refine rg_M_faultAt hx hb hT hown hK hP w_812 dX9_village_30 ?_
      refine lv_if_lt (tgt := 39) hx hb dX9_village_33 (by decide) (fun c33 => ?_) (fun c33 => ?_)
      · replace h := if_t c33 h
        refine lv_aload_n hx hb dX9_village_39 rfl (lv_at hl 0 rfl) ?_
        refine lv_aload_n hx hb dX9_village_40 rfl (lv_at hl 0 rfl) ?_
        refine rg_M_readPeople hx hb hT hown hK hP w_813 dX9_village_41 ?_
        refine rp_M_people hx hb hT hown hK hP hN hS w_779 dX9_village_44 (fun H locs hP hS => ?_)
        generalize emi_44 : va_up mi_26 0 (mi_26 7) = mi_44 at hP
        replace h := lt_g h emi_44
        refine lv_aload_n hx hb dX9_village_47 rfl (lv_at hl 0 rfl) ?_
        refine lv_iconst (v := 0) hx hb dX9_village_48 (by decide) ?_
        refine rp_M_day hx hb hT hown hK hP hN hS w_785 dX9_village_49 (fun H locs hP hS => ?_)
        generalize emi_49 : va_up mi_44 1 (0 : Int32) = mi_49 at hP
        replace h := lt_g h emi_49
        refine lv_aload_n hx hb dX9_village_52 rfl (lv_at hl 0 rfl) ?_
        refine lv_iconst (v := 0) hx hb dX9_village_53 (by decide) ?_
        refine rp_M_deeds hx hb hT hown hK hP hN hS w_786 dX9_village_54 (fun H locs hP hS => ?_)
        generalize emi_54 : va_up mi_49 2 (0 : Int32) = mi_54 at hP
        replace h := lt_g h emi_54
        refine lv_iconst (v := 0) hx hb dX9_village_57 (by decide) ?_
        refine lv_istore_n (lv' := [(2, .int (0 : Int32)), (0, .ref (xB X 0)), (1, .int a1)]) hx hb dX9_village_58 rfl hl (by decide) rfl (fun ls hl => ?_)
        exact hL59 500 (0 : Int32) mi_54 ma_26 _ _ ls (lv_sub hl [1, 0] rfl) hP hS h
      · replace h := if_f c33 h
        refine lv_bipush (v := -4) hx hb dX9_village_36 (by decide) ?_
        cases h
        exact W.iret hx hb hr (fun t ht _ => ⟨rfl, by rw [ht]; exact hP, hS.F ht⟩) hS.2.2 dX9_village_38
    · replace h := if_f c15 h
      refine lv_aload_n hx hb dX9_village_18 rfl (lv_at hl 0 rfl) ?_
      refine lv_iconst (v := 1) hx hb dX9_village_19 (by decide) ?_
      obtain ⟨r20, mi_20, ma_20, hc20, h⟩ := bd3_e h
      refine wcV (As := [.int (1 : Int32)]) (rest := []) ⟨hx, hb, hml, hown, hts⟩ (c_X9_finds l X mi ml ma mb (1 : Int32) hc20) ⟨w_915, w_917, w_12, w_58, w_918⟩ hd_X9_finds rfl rfl ⟨(Nat.le_of_ble_eq_true rfl), (Nat.le_of_ble_eq_true rfl)⟩ ⟨Nat.zero_le _, Nat.zero_le _⟩ mPre_blind (va_recv hK hP (ci := 5) rfl cM_o) (mPre_call hP hK hN) hS (fun _ h => h) rfl rfl hl.1 (Nat.le_of_ble_eq_true rfl) dX9_village_20 (fun H locs hP _ hS => ?_)
      have hP : va_P X.1 vwCl (cM X mi_20 ml ma_20 mb) H := hP
      refine W.eq (g2 := F0 m 23 ls [.int r20]) rfl ?_
      cases h
      exact W.iret hx hb hr (fun t ht _ => ⟨rfl, by rw [ht]; exact hP, hS.F ht⟩) hS.2.2 dX9_village_23
  · replace h := if_t c4 h
    refine lv_iconst (v := -1) hx hb dX9_village_7 (by decide) ?_
    cases h
    exact W.iret hx hb hr (fun t ht _ => ⟨rfl, by rw [ht]; exact hP, hS.F ht⟩) hS.2.2 dX9_village_8
set_option maxRecDepth 100000 in
set_option maxHeartbeats 4000000 in
theorem c_X9_isStuck (l : Launch) (X : gX) (mi : Nat → Int32) (ml : Nat → Int64) (ma : Nat → Nat → Int32) (mb : Nat → Nat → Int64) (a1 : Int32) {o0 : Int32} (h : X9_isStuck ma a1 = some o0) : Met l yX9_isStuck (Cond.code yX9_isStuck cX9_isStuck 2 (some .boolean) :: gT) { frames := 0, cells := 0, slots := 0, locals := 0 } (va_Pc [.ref (xB X 0), .int a1] (mPre X mi ml ma mb)) (k2_QcV (.int o0)) 0 0 (fun _ => False) := by
  refine Met.ofW (cc := cX9_isStuck) (maxL := 2) (ret := (some .boolean)) (by decide) rfl ?_
  intro p e s m args below meth c s₁ B hml hv
  obtain ⟨rfl, hP, hK, hN⟩ := hv
  have hx := B.exec
  have hb := B.bytes
  have hr := B.returns
  have hts := atoms_spec (ws := (Cond.code yX9_isStuck cX9_isStuck 2 (some .boolean) :: gT)) B.pre
  have hT : ∀ w ∈ gT, w.before _ s = true := fun w hw => hts w (List.mem_cons_of_mem _ hw)
  have hown : s.vm.findClass RX9 = some m.cls := findClass_of_methodNamed B.named
  have hlocks := B.notSynchronized
  have hS : va_S (mA X) s.heap s.heap [] := va_S.rf
  have hl := lv_entry ([.ref (xB X 0), .int a1]) (n := 2) (Nat.le_of_ble_eq_true rfl)
  rw [lg_entry_eq]
  generalize (lg_sl ([.ref (xB X 0), .int a1]) ++ List.replicate (2 - (lg_sl ([.ref (xB X 0), .int a1])).length) Slot.unset).toArray = ls at hl ⊢
  have hl : lv_has ls 2 [(0, .ref (xB X 0)), (1, .int a1)] := hl
  rw [X9_isStuck] at h
  refine lv_aload_n hx hb dX9_isStuck_0 rfl (lv_at hl 0 rfl) ?_
  refine rg_M_hangs hx hb hT hown hK hP w_782 dX9_isStuck_1 ?_
  refine lv_iload_n hx hb dX9_isStuck_4 rfl (lv_at hl 1 rfl) ?_
  obtain ⟨hi5, h⟩ := gd_e h
  refine ra_m2 hx hb hK hP (ib_in hi5) dX9_isStuck_5 ?_
  refine lv_bipush (v := -9) hx hb dX9_isStuck_6 (by decide) ?_
  refine lv_icmp_eq (tgt := 15) hx hb dX9_isStuck_8 (by decide) (fun c8 => ?_) (fun c8 => ?_)
  · replace h := if_t c8 h
    refine lv_iconst (v := 0) hx hb dX9_isStuck_15 (by decide) ?_
    cases h
    exact W.zret (ty := .boolean) hx hb hr rfl (fun t ht _ => ⟨rfl, ht⟩) (fun _ hq => by cases hq) dX9_isStuck_16
  · replace h := if_f c8 h
    refine lv_iconst (v := 1) hx hb dX9_isStuck_11 (by decide) ?_
    refine lv_goto (tgt := 16) hx hb dX9_isStuck_12 (by decide) ?_
    cases h
    exact W.zret (ty := .boolean) hx hb hr rfl (fun t ht _ => ⟨rfl, ht⟩) (fun _ hq => by cases hq) dX9_isStuck_16
set_option maxRecDepth 100000 in
set_option maxHeartbeats 4000000 in
theorem c_X9_stuckSet (l : Launch) (X : gX) (mi : Nat → Int32) (ml : Nat → Int64) (ma : Nat → Nat → Int32) (mb : Nat → Nat → Int64) {o0 : Int32} (h : X9_stuckSet mi ma = some o0) : Met l yX9_stuckSet (Cond.code yX9_stuckSet cX9_stuckSet 3 (some .int) :: gT) { frames := 1, cells := 0, slots := 0, locals := 21 } (va_Pc [.ref (xB X 0)] (mPre X mi ml ma mb)) (k2_QcV (.int o0)) 0 0 (fun _ => False) := by
  refine Met.ofW (cc := cX9_stuckSet) (maxL := 3) (ret := (some .int)) (by decide) rfl ?_
  intro p e s m args below meth c s₁ B hml hv
  obtain ⟨rfl, hP, hK, hN⟩ := hv
  have hx := B.exec
  have hb := B.bytes
  have hr := B.returns
  have hts := atoms_spec (ws := (Cond.code yX9_stuckSet cX9_stuckSet 3 (some .int) :: gT)) B.pre
  have hT : ∀ w ∈ gT, w.before _ s = true := fun w hw => hts w (List.mem_cons_of_mem _ hw)
  have hown : s.vm.findClass RX9 = some m.cls := findClass_of_methodNamed B.named
  have hlocks := B.notSynchronized
  have hS : va_S (mA X) s.heap s.heap [] := va_S.rf
  have hl := lv_entry ([.ref (xB X 0)]) (n := 3) (Nat.le_of_ble_eq_true rfl)
  rw [lg_entry_eq]
  generalize (lg_sl ([.ref (xB X 0)]) ++ List.replicate (3 - (lg_sl ([.ref (xB X 0)])).length) Slot.unset).toArray = ls at hl ⊢
  have hl : lv_has ls 3 [(0, .ref (xB X 0))] := hl
  have hL4 : ∀ (n4 : Nat) (v1 : Int32) (v2 : Int32) (ls : Array Slot), lv_has ls 3 [(0, .ref (xB X 0)), (1, .int v1), (2, .int v2)] → X9_stuckSet_4 mi ma n4 v1 v2 = some o0 → W p l e (headSpec (Cond.code yX9_stuckSet cX9_stuckSet 3 (some .int) :: gT) { frames := 1, cells := 0, slots := 0, locals := 21 }).room s m [.ref (xB X 0)].toArray below meth c s.heap [] 0 0 (MQ below (k2_QcV (.int o0)) [.ref (xB X 0)].toArray s 0 0 (fun _ => False)) (F0 m 4 ls []) := by
    intro n4
    induction n4 with
    | zero =>
      intro v1 v2 ls hl h
      rw [X9_stuckSet_4] at h
      cases h
    | succ n4 ih4 =>
      intro v1 v2 ls hl h
      rw [X9_stuckSet_4] at h
      refine lv_iload_n hx hb dX9_stuckSet_4 rfl (lv_at hl 2 rfl) ?_
      refine lv_aload_n hx hb dX9_stuckSet_5 rfl (lv_at hl 0 rfl) ?_
      refine rg_M_people hx hb hT hown hK hP w_779 dX9_stuckSet_6 ?_
      refine lv_icmp_ge (tgt := 36) hx hb dX9_stuckSet_9 (by decide) (fun c9 => ?_) (fun c9 => ?_)
      · replace h := if_t c9 h
        refine lv_iload_n hx hb dX9_stuckSet_36 rfl (lv_at hl 1 rfl) ?_
        cases h
        exact W.iret hx hb hr (fun t ht _ => ⟨rfl, ht⟩) (fun _ hq => by cases hq) dX9_stuckSet_37
      · replace h := if_f c9 h
        refine lv_iload_n hx hb dX9_stuckSet_12 rfl (lv_at hl 1 rfl) ?_
        refine lv_aload_n hx hb dX9_stuckSet_13 rfl (lv_at hl 0 rfl) ?_
        refine lv_iload_n hx hb dX9_stuckSet_14 rfl (lv_at hl 2 rfl) ?_
        obtain ⟨r15, hc15, h⟩ := Option.bind_eq_some_iff.mp h
        refine rcV (As := [.int v2]) (rest := [.int v1]) ⟨hx, hb, hml, hown, hts⟩ (c_X9_isStuck l X mi ml ma mb v2 hc15) ⟨w_1026, w_1028, w_27, w_58, w_1029⟩ hd_X9_isStuck rfl rfl ⟨(Nat.le_of_ble_eq_true rfl), (Nat.le_of_ble_eq_true rfl)⟩ ⟨Nat.zero_le _, Nat.zero_le _⟩ mPre_blind (va_recv hK hP (ci := 5) rfl cM_o) (mPre_call hP hK hN) rfl rfl hl.1 (Nat.le_of_ble_eq_true rfl) dX9_stuckSet_15 ?_
        refine lv_if_eq (tgt := 27) hx hb dX9_stuckSet_18 (by decide) (fun c18 => ?_) (fun c18 => ?_)
        · replace h := if_t c18 h
          refine lv_iconst (v := 0) hx hb dX9_stuckSet_27 (by decide) ?_
          refine lv_ior hx hb dX9_stuckSet_28 ?_
          refine lv_istore_n (lv' := [(1, .int (v1 ||| (0 : Int32))), (0, .ref (xB X 0)), (2, .int v2)]) hx hb dX9_stuckSet_29 rfl hl (by decide) rfl (fun ls hl => ?_)
          refine lv_iinc (v := (v2 + (1 : Int32))) (lv' := [(2, .int (v2 + (1 : Int32))), (1, .int (v1 ||| (0 : Int32))), (0, .ref (xB X 0))]) hx hb dX9_stuckSet_30 hl (k := 2) rfl rfl (by decide) rfl (fun ls hl => ?_)
          refine lv_goto (tgt := 4) hx hb dX9_stuckSet_33 (by decide) ?_
          exact ih4 (v1 ||| (0 : Int32)) (v2 + (1 : Int32)) ls (lv_sub hl [2, 1, 0] rfl) h
        · replace h := if_f c18 h
          refine lv_iconst (v := 1) hx hb dX9_stuckSet_21 (by decide) ?_
          refine lv_iload_n hx hb dX9_stuckSet_22 rfl (lv_at hl 2 rfl) ?_
          refine lv_ishl hx hb dX9_stuckSet_23 ?_
          refine lv_goto (tgt := 28) hx hb dX9_stuckSet_24 (by decide) ?_
          refine lv_ior hx hb dX9_stuckSet_28 ?_
          refine lv_istore_n (lv' := [(1, .int (v1 ||| ((1 : Int32) <<< (v2 &&& 31)))), (0, .ref (xB X 0)), (2, .int v2)]) hx hb dX9_stuckSet_29 rfl hl (by decide) rfl (fun ls hl => ?_)
          refine lv_iinc (v := (v2 + (1 : Int32))) (lv' := [(2, .int (v2 + (1 : Int32))), (1, .int (v1 ||| ((1 : Int32) <<< (v2 &&& 31)))), (0, .ref (xB X 0))]) hx hb dX9_stuckSet_30 hl (k := 2) rfl rfl (by decide) rfl (fun ls hl => ?_)
          refine lv_goto (tgt := 4) hx hb dX9_stuckSet_33 (by decide) ?_
          exact ih4 (v1 ||| ((1 : Int32) <<< (v2 &&& 31))) (v2 + (1 : Int32)) ls (lv_sub hl [2, 1, 0] rfl) h
  rw [X9_stuckSet] at h
  refine lv_iconst (v := 0) hx hb dX9_stuckSet_0 (by decide) ?_
  refine lv_istore_n (lv' := [(1, .int (0 : Int32)), (0, .ref (xB X 0))]) hx hb dX9_stuckSet_1 rfl hl (by decide) rfl (fun ls hl => ?_)
  refine lv_iconst (v := 0) hx hb dX9_stuckSet_2 (by decide) ?_
  refine lv_istore_n (lv' := [(2, .int (0 : Int32)), (1, .int (0 : Int32)), (0, .ref (xB X 0))]) hx hb dX9_stuckSet_3 rfl hl (by decide) rfl (fun ls hl => ?_)
  exact hL4 500 (0 : Int32) (0 : Int32) ls (lv_sub hl [2, 1, 0] rfl) h
set_option maxRecDepth 100000 in
set_option maxHeartbeats 4000000 in
theorem c_X9_depthOf (l : Launch) (X : gX) (mi : Nat → Int32) (ml : Nat → Int64) (ma : Nat → Nat → Int32) (mb : Nat → Nat → Int64) (a1 : Int32) {o0 : Int32} (h : X9_depthOf ma a1 = some o0) : Met l yX9_depthOf (Cond.code yX9_depthOf cX9_depthOf 4 (some .int) :: gT) { frames := 0, cells := 0, slots := 0, locals := 0 } (va_Pc [.ref (xB X 0), .int a1] (mPre X mi ml ma mb)) (k2_QcV (.int o0)) 0 0 (fun _ => False) := by
  refine Met.ofW (cc := cX9_depthOf) (maxL := 4) (ret := (some .int)) (by decide) rfl ?_
  intro p e s m args below meth c s₁ B hml hv
  obtain ⟨rfl, hP, hK, hN⟩ := hv
  have hx := B.exec
  have hb := B.bytes
  have hr := B.returns
  have hts := atoms_spec (ws := (Cond.code yX9_depthOf cX9_depthOf 4 (some .int) :: gT)) B.pre
  have hT : ∀ w ∈ gT, w.before _ s = true := fun w hw => hts w (List.mem_cons_of_mem _ hw)
  have hown : s.vm.findClass RX9 = some m.cls := findClass_of_methodNamed B.named
  have hlocks := B.notSynchronized
  have hS : va_S (mA X) s.heap s.heap [] := va_S.rf
  have hl := lv_entry ([.ref (xB X 0), .int a1]) (n := 4) (Nat.le_of_ble_eq_true rfl)
  rw [lg_entry_eq]
  generalize (lg_sl ([.ref (xB X 0), .int a1]) ++ List.replicate (4 - (lg_sl ([.ref (xB X 0), .int a1])).length) Slot.unset).toArray = ls at hl ⊢
  have hl : lv_has ls 4 [(0, .ref (xB X 0)), (1, .int a1)] := hl
  have hL4 : ∀ (n4 : Nat) (v2 : Int32) (v3 : Int32) (ls : Array Slot), lv_has ls 4 [(0, .ref (xB X 0)), (2, .int v2), (3, .int v3)] → X9_depthOf_4 ma n4 v2 v3 = some o0 → W p l e (headSpec (Cond.code yX9_depthOf cX9_depthOf 4 (some .int) :: gT) { frames := 0, cells := 0, slots := 0, locals := 0 }).room s m [.ref (xB X 0), .int a1].toArray below meth c s.heap [] 0 0 (MQ below (k2_QcV (.int o0)) [.ref (xB X 0), .int a1].toArray s 0 0 (fun _ => False)) (F0 m 4 ls []) := by
    intro n4
    induction n4 with
    | zero =>
      intro v2 v3 ls hl h
      rw [X9_depthOf_4] at h
      cases h
    | succ n4 ih4 =>
      intro v2 v3 ls hl h
      rw [X9_depthOf_4] at h
      refine lv_iload_n hx hb dX9_depthOf_4 rfl (lv_at hl 2 rfl) ?_
      refine lv_bipush (v := 9) hx hb dX9_depthOf_5 (by decide) ?_
      refine lv_icmp_eq (tgt := 29) hx hb dX9_depthOf_7 (by decide) (fun c7 => ?_) (fun c7 => ?_)
      · replace h := if_t c7 h
        refine lv_iload_n hx hb dX9_depthOf_29 rfl (lv_at hl 2 rfl) ?_
        refine lv_bipush (v := -9) hx hb dX9_depthOf_30 (by decide) ?_
        refine lv_icmp_ne (tgt := 39) hx hb dX9_depthOf_32 (by decide) (fun c32 => ?_) (fun c32 => ?_)
        · replace h := if_f c32 h
          refine lv_iload_n hx hb dX9_depthOf_39 rfl (lv_at hl 1 rfl) ?_
          cases h
          exact W.iret hx hb hr (fun t ht _ => ⟨rfl, ht⟩) (fun _ hq => by cases hq) dX9_depthOf_40
        · replace h := if_t c32 h
          refine lv_iconst (v := 0) hx hb dX9_depthOf_35 (by decide) ?_
          refine lv_goto (tgt := 40) hx hb dX9_depthOf_36 (by decide) ?_
          cases h
          exact W.iret hx hb hr (fun t ht _ => ⟨rfl, ht⟩) (fun _ hq => by cases hq) dX9_depthOf_40
      · replace h := if_f c7 h
        refine lv_iload_n hx hb dX9_depthOf_10 rfl (lv_at hl 2 rfl) ?_
        refine lv_bipush (v := -9) hx hb dX9_depthOf_11 (by decide) ?_
        refine lv_icmp_eq (tgt := 29) hx hb dX9_depthOf_13 (by decide) (fun c13 => ?_) (fun c13 => ?_)
        · replace h := if_t c13 h
          refine lv_iload_n hx hb dX9_depthOf_29 rfl (lv_at hl 2 rfl) ?_
          refine lv_bipush (v := -9) hx hb dX9_depthOf_30 (by decide) ?_
          refine lv_icmp_ne (tgt := 39) hx hb dX9_depthOf_32 (by decide) (fun c32 => ?_) (fun c32 => ?_)
          · replace h := if_f c32 h
            refine lv_iload_n hx hb dX9_depthOf_39 rfl (lv_at hl 1 rfl) ?_
            cases h
            exact W.iret hx hb hr (fun t ht _ => ⟨rfl, ht⟩) (fun _ hq => by cases hq) dX9_depthOf_40
          · replace h := if_t c32 h
            refine lv_iconst (v := 0) hx hb dX9_depthOf_35 (by decide) ?_
            refine lv_goto (tgt := 40) hx hb dX9_depthOf_36 (by decide) ?_
            cases h
            exact W.iret hx hb hr (fun t ht _ => ⟨rfl, ht⟩) (fun _ hq => by cases hq) dX9_depthOf_40
        · replace h := if_f c13 h
          refine lv_aload_n hx hb dX9_depthOf_16 rfl (lv_at hl 0 rfl) ?_
          refine rg_M_hangs hx hb hT hown hK hP w_782 dX9_depthOf_17 ?_
          refine lv_iload_n hx hb dX9_depthOf_20 rfl (lv_at hl 2 rfl) ?_
          obtain ⟨hi21, h⟩ := gd_e h
          refine ra_m2 hx hb hK hP (ib_in hi21) dX9_depthOf_21 ?_
          refine lv_istore_n (lv' := [(3, .int (ma 2 v3.toNatClampNeg)), (0, .ref (xB X 0)), (2, .int v2)]) hx hb dX9_depthOf_22 rfl hl (by decide) rfl (fun ls hl => ?_)
          refine lv_iinc (v := (v2 + (1 : Int32))) (lv' := [(2, .int (v2 + (1 : Int32))), (3, .int (ma 2 v3.toNatClampNeg)), (0, .ref (xB X 0))]) hx hb dX9_depthOf_23 hl (k := 2) rfl rfl (by decide) rfl (fun ls hl => ?_)
          refine lv_goto (tgt := 4) hx hb dX9_depthOf_26 (by decide) ?_
          exact ih4 (v2 + (1 : Int32)) (ma 2 v3.toNatClampNeg) ls (lv_sub hl [2, 0, 1] rfl) h
  rw [X9_depthOf] at h
  refine lv_iconst (v := 0) hx hb dX9_depthOf_0 (by decide) ?_
  refine lv_istore_n (lv' := [(2, .int (0 : Int32)), (0, .ref (xB X 0)), (1, .int a1)]) hx hb dX9_depthOf_1 rfl hl (by decide) rfl (fun ls hl => ?_)
  refine lv_iload_n hx hb dX9_depthOf_2 rfl (lv_at hl 2 rfl) ?_
  refine lv_istore_n (lv' := [(3, .int a1), (2, .int (0 : Int32)), (0, .ref (xB X 0)), (1, .int a1)]) hx hb dX9_depthOf_3 rfl hl (by decide) rfl (fun ls hl => ?_)
  exact hL4 500 (0 : Int32) a1 ls (lv_sub hl [2, 1, 0] rfl) h
set_option maxRecDepth 100000 in
set_option maxHeartbeats 4000000 in
theorem c_X9_deepest (l : Launch) (X : gX) (mi : Nat → Int32) (ml : Nat → Int64) (ma : Nat → Nat → Int32) (mb : Nat → Nat → Int64) {o0 : Int32} (h : X9_deepest mi ma = some o0) : Met l yX9_deepest (Cond.code yX9_deepest cX9_deepest 4 (some .int) :: gT) { frames := 1, cells := 0, slots := 0, locals := 23 } (va_Pc [.ref (xB X 0)] (mPre X mi ml ma mb)) (k2_QcV (.int o0)) 0 0 (fun _ => False) := by
  refine Met.ofW (cc := cX9_deepest) (maxL := 4) (ret := (some .int)) (by decide) rfl ?_
  intro p e s m args below meth c s₁ B hml hv
  obtain ⟨rfl, hP, hK, hN⟩ := hv
  have hx := B.exec
  have hb := B.bytes
  have hr := B.returns
  have hts := atoms_spec (ws := (Cond.code yX9_deepest cX9_deepest 4 (some .int) :: gT)) B.pre
  have hT : ∀ w ∈ gT, w.before _ s = true := fun w hw => hts w (List.mem_cons_of_mem _ hw)
  have hown : s.vm.findClass RX9 = some m.cls := findClass_of_methodNamed B.named
  have hlocks := B.notSynchronized
  have hS : va_S (mA X) s.heap s.heap [] := va_S.rf
  have hl := lv_entry ([.ref (xB X 0)]) (n := 4) (Nat.le_of_ble_eq_true rfl)
  rw [lg_entry_eq]
  generalize (lg_sl ([.ref (xB X 0)]) ++ List.replicate (4 - (lg_sl ([.ref (xB X 0)])).length) Slot.unset).toArray = ls at hl ⊢
  have hl : lv_has ls 4 [(0, .ref (xB X 0))] := hl
  have hL4 : ∀ (n4 : Nat) (v1 : Int32) (v2 : Int32) (ls : Array Slot), lv_has ls 4 [(0, .ref (xB X 0)), (1, .int v1), (2, .int v2)] → X9_deepest_4 mi ma n4 v1 v2 = some o0 → W p l e (headSpec (Cond.code yX9_deepest cX9_deepest 4 (some .int) :: gT) { frames := 1, cells := 0, slots := 0, locals := 23 }).room s m [.ref (xB X 0)].toArray below meth c s.heap [] 0 0 (MQ below (k2_QcV (.int o0)) [.ref (xB X 0)].toArray s 0 0 (fun _ => False)) (F0 m 4 ls []) := by
    intro n4
    induction n4 with
    | zero =>
      intro v1 v2 ls hl h
      rw [X9_deepest_4] at h
      cases h
    | succ n4 ih4 =>
      intro v1 v2 ls hl h
      rw [X9_deepest_4] at h
      refine lv_iload_n hx hb dX9_deepest_4 rfl (lv_at hl 2 rfl) ?_
      refine lv_aload_n hx hb dX9_deepest_5 rfl (lv_at hl 0 rfl) ?_
      refine rg_M_people hx hb hT hown hK hP w_779 dX9_deepest_6 ?_
      refine lv_icmp_ge (tgt := 35) hx hb dX9_deepest_9 (by decide) (fun c9 => ?_) (fun c9 => ?_)
      · replace h := if_t c9 h
        refine lv_iload_n hx hb dX9_deepest_35 rfl (lv_at hl 1 rfl) ?_
        cases h
        exact W.iret hx hb hr (fun t ht _ => ⟨rfl, ht⟩) (fun _ hq => by cases hq) dX9_deepest_36
      · replace h := if_f c9 h
        refine lv_aload_n hx hb dX9_deepest_12 rfl (lv_at hl 0 rfl) ?_
        refine lv_iload_n hx hb dX9_deepest_13 rfl (lv_at hl 2 rfl) ?_
        obtain ⟨r14, hc14, h⟩ := Option.bind_eq_some_iff.mp h
        refine rcV (As := [.int v2]) (rest := []) ⟨hx, hb, hml, hown, hts⟩ (c_X9_depthOf l X mi ml ma mb v2 hc14) ⟨w_998, w_1000, w_21, w_58, w_1001⟩ hd_X9_depthOf rfl rfl ⟨(Nat.le_of_ble_eq_true rfl), (Nat.le_of_ble_eq_true rfl)⟩ ⟨Nat.zero_le _, Nat.zero_le _⟩ mPre_blind (va_recv hK hP (ci := 5) rfl cM_o) (mPre_call hP hK hN) rfl rfl hl.1 (Nat.le_of_ble_eq_true rfl) dX9_deepest_14 ?_
        refine lv_istore_n (lv' := [(3, .int r14), (0, .ref (xB X 0)), (1, .int v1), (2, .int v2)]) hx hb dX9_deepest_17 rfl hl (by decide) rfl (fun ls hl => ?_)
        refine lv_iload_n hx hb dX9_deepest_18 rfl (lv_at hl 0 rfl) ?_
        refine lv_iload_n hx hb dX9_deepest_19 rfl (lv_at hl 2 rfl) ?_
        refine lv_icmp_le (tgt := 27) hx hb dX9_deepest_20 (by decide) (fun c20 => ?_) (fun c20 => ?_)
        · replace h := if_t c20 h
          refine lv_iload_n hx hb dX9_deepest_27 rfl (lv_at hl 2 rfl) ?_
          refine lv_istore_n (lv' := [(1, .int v1), (3, .int r14), (0, .ref (xB X 0)), (2, .int v2)]) hx hb dX9_deepest_28 rfl hl (by decide) rfl (fun ls hl => ?_)
          refine lv_iinc (v := (v2 + (1 : Int32))) (lv' := [(2, .int (v2 + (1 : Int32))), (1, .int v1), (3, .int r14), (0, .ref (xB X 0))]) hx hb dX9_deepest_29 hl (k := 3) rfl rfl (by decide) rfl (fun ls hl => ?_)
          refine lv_goto (tgt := 4) hx hb dX9_deepest_32 (by decide) ?_
          exact ih4 v1 (v2 + (1 : Int32)) ls (lv_sub hl [3, 1, 0] rfl) h
        · replace h := if_f c20 h
          refine lv_iload_n hx hb dX9_deepest_23 rfl (lv_at hl 0 rfl) ?_
          refine lv_goto (tgt := 28) hx hb dX9_deepest_24 (by decide) ?_
          refine lv_istore_n (lv' := [(1, .int r14), (3, .int r14), (0, .ref (xB X 0)), (2, .int v2)]) hx hb dX9_deepest_28 rfl hl (by decide) rfl (fun ls hl => ?_)
          refine lv_iinc (v := (v2 + (1 : Int32))) (lv' := [(2, .int (v2 + (1 : Int32))), (1, .int r14), (3, .int r14), (0, .ref (xB X 0))]) hx hb dX9_deepest_29 hl (k := 3) rfl rfl (by decide) rfl (fun ls hl => ?_)
          refine lv_goto (tgt := 4) hx hb dX9_deepest_32 (by decide) ?_
          exact ih4 r14 (v2 + (1 : Int32)) ls (lv_sub hl [3, 1, 0] rfl) h
  rw [X9_deepest] at h
  refine lv_iconst (v := 0) hx hb dX9_deepest_0 (by decide) ?_
  refine lv_istore_n (lv' := [(1, .int (0 : Int32)), (0, .ref (xB X 0))]) hx hb dX9_deepest_1 rfl hl (by decide) rfl (fun ls hl => ?_)
  refine lv_iconst (v := 0) hx hb dX9_deepest_2 (by decide) ?_
  refine lv_istore_n (lv' := [(2, .int (0 : Int32)), (1, .int (0 : Int32)), (0, .ref (xB X 0))]) hx hb dX9_deepest_3 rfl hl (by decide) rfl (fun ls hl => ?_)
  exact hL4 500 (0 : Int32) (0 : Int32) ls (lv_sub hl [2, 1, 0] rfl) h
set_option maxRecDepth 100000 in
set_option maxHeartbeats 4000000 in
theorem c_X9_hangSet (l : Launch) (X : gX) (mi : Nat → Int32) (ml : Nat → Int64) (ma : Nat → Nat → Int32) (mb : Nat → Nat → Int64) (a1 : Int32) {o0 : Int32} (h : X9_hangSet mi ma a1 = some o0) : Met l yX9_hangSet (Cond.code yX9_hangSet cX9_hangSet 4 (some .int) :: gT) { frames := 0, cells := 0, slots := 0, locals := 0 } (va_Pc [.ref (xB X 0), .int a1] (mPre X mi ml ma mb)) (k2_QcV (.int o0)) 0 0 (fun _ => False) := by
  refine Met.ofW (cc := cX9_hangSet) (maxL := 4) (ret := (some .int)) (by decide) rfl ?_
  intro p e s m args below meth c s₁ B hml hv
  obtain ⟨rfl, hP, hK, hN⟩ := hv
  have hx := B.exec
  have hb := B.bytes
  have hr := B.returns
  have hts := atoms_spec (ws := (Cond.code yX9_hangSet cX9_hangSet 4 (some .int) :: gT)) B.pre
  have hT : ∀ w ∈ gT, w.before _ s = true := fun w hw => hts w (List.mem_cons_of_mem _ hw)
  have hown : s.vm.findClass RX9 = some m.cls := findClass_of_methodNamed B.named
  have hlocks := B.notSynchronized
  have hS : va_S (mA X) s.heap s.heap [] := va_S.rf
  have hl := lv_entry ([.ref (xB X 0), .int a1]) (n := 4) (Nat.le_of_ble_eq_true rfl)
  rw [lg_entry_eq]
  generalize (lg_sl ([.ref (xB X 0), .int a1]) ++ List.replicate (4 - (lg_sl ([.ref (xB X 0), .int a1])).length) Slot.unset).toArray = ls at hl ⊢
  have hl : lv_has ls 4 [(0, .ref (xB X 0)), (1, .int a1)] := hl
  have hL4 : ∀ (n4 : Nat) (v1 : Int32) (v2 : Int32) (v3 : Int32) (ls : Array Slot), lv_has ls 4 [(0, .ref (xB X 0)), (1, .int v1), (2, .int v2), (3, .int v3)] → X9_hangSet_4 mi ma n4 v1 v2 v3 = some o0 → W p l e (headSpec (Cond.code yX9_hangSet cX9_hangSet 4 (some .int) :: gT) { frames := 0, cells := 0, slots := 0, locals := 0 }).room s m [.ref (xB X 0), .int a1].toArray below meth c s.heap [] 0 0 (MQ below (k2_QcV (.int o0)) [.ref (xB X 0), .int a1].toArray s 0 0 (fun _ => False)) (F0 m 4 ls []) := by
    intro n4
    induction n4 with
    | zero =>
      intro v1 v2 v3 ls hl h
      rw [X9_hangSet_4] at h
      cases h
    | succ n4 ih4 =>
      intro v1 v2 v3 ls hl h
      rw [X9_hangSet_4] at h
      refine lv_iload_n hx hb dX9_hangSet_4 rfl (lv_at hl 3 rfl) ?_
      refine lv_aload_n hx hb dX9_hangSet_5 rfl (lv_at hl 0 rfl) ?_
      refine rg_M_people hx hb hT hown hK hP w_779 dX9_hangSet_6 ?_
      refine lv_icmp_ge (tgt := 38) hx hb dX9_hangSet_9 (by decide) (fun c9 => ?_) (fun c9 => ?_)
      · replace h := if_t c9 h
        refine lv_iload_n hx hb dX9_hangSet_38 rfl (lv_at hl 2 rfl) ?_
        cases h
        exact W.iret hx hb hr (fun t ht _ => ⟨rfl, ht⟩) (fun _ hq => by cases hq) dX9_hangSet_39
      · replace h := if_f c9 h
        refine lv_iload_n hx hb dX9_hangSet_12 rfl (lv_at hl 2 rfl) ?_
        refine lv_aload_n hx hb dX9_hangSet_13 rfl (lv_at hl 0 rfl) ?_
        refine rg_M_hangs hx hb hT hown hK hP w_782 dX9_hangSet_14 ?_
        refine lv_iload_n hx hb dX9_hangSet_17 rfl (lv_at hl 3 rfl) ?_
        obtain ⟨hi18, h⟩ := gd_e h
        refine ra_m2 hx hb hK hP (ib_in hi18) dX9_hangSet_18 ?_
        refine lv_iload_n hx hb dX9_hangSet_19 rfl (lv_at hl 1 rfl) ?_
        refine lv_icmp_ne (tgt := 29) hx hb dX9_hangSet_20 (by decide) (fun c20 => ?_) (fun c20 => ?_)
        · replace h := if_f c20 h
          refine lv_iconst (v := 0) hx hb dX9_hangSet_29 (by decide) ?_
          refine lv_ior hx hb dX9_hangSet_30 ?_
          refine lv_istore_n (lv' := [(2, .int (v2 ||| (0 : Int32))), (0, .ref (xB X 0)), (1, .int v1), (3, .int v3)]) hx hb dX9_hangSet_31 rfl hl (by decide) rfl (fun ls hl => ?_)
          refine lv_iinc (v := (v3 + (1 : Int32))) (lv' := [(3, .int (v3 + (1 : Int32))), (2, .int (v2 ||| (0 : Int32))), (0, .ref (xB X 0)), (1, .int v1)]) hx hb dX9_hangSet_32 hl (k := 3) rfl rfl (by decide) rfl (fun ls hl => ?_)
          refine lv_goto (tgt := 4) hx hb dX9_hangSet_35 (by decide) ?_
          exact ih4 v1 (v2 ||| (0 : Int32)) (v3 + (1 : Int32)) ls (lv_sub hl [2, 3, 1, 0] rfl) h
        · replace h := if_t c20 h
          refine lv_iconst (v := 1) hx hb dX9_hangSet_23 (by decide) ?_
          refine lv_iload_n hx hb dX9_hangSet_24 rfl (lv_at hl 3 rfl) ?_
          refine lv_ishl hx hb dX9_hangSet_25 ?_
          refine lv_goto (tgt := 30) hx hb dX9_hangSet_26 (by decide) ?_
          refine lv_ior hx hb dX9_hangSet_30 ?_
          refine lv_istore_n (lv' := [(2, .int (v2 ||| ((1 : Int32) <<< (v3 &&& 31)))), (0, .ref (xB X 0)), (1, .int v1), (3, .int v3)]) hx hb dX9_hangSet_31 rfl hl (by decide) rfl (fun ls hl => ?_)
          refine lv_iinc (v := (v3 + (1 : Int32))) (lv' := [(3, .int (v3 + (1 : Int32))), (2, .int (v2 ||| ((1 : Int32) <<< (v3 &&& 31)))), (0, .ref (xB X 0)), (1, .int v1)]) hx hb dX9_hangSet_32 hl (k := 3) rfl rfl (by decide) rfl (fun ls hl => ?_)
          refine lv_goto (tgt := 4) hx hb dX9_hangSet_35 (by decide) ?_
          exact ih4 v1 (v2 ||| ((1 : Int32) <<< (v3 &&& 31))) (v3 + (1 : Int32)) ls (lv_sub hl [2, 3, 1, 0] rfl) h
  rw [X9_hangSet] at h
  refine lv_iconst (v := 0) hx hb dX9_hangSet_0 (by decide) ?_
  refine lv_istore_n (lv' := [(2, .int (0 : Int32)), (0, .ref (xB X 0)), (1, .int a1)]) hx hb dX9_hangSet_1 rfl hl (by decide) rfl (fun ls hl => ?_)
  refine lv_iconst (v := 0) hx hb dX9_hangSet_2 (by decide) ?_
  refine lv_istore_n (lv' := [(3, .int (0 : Int32)), (2, .int (0 : Int32)), (0, .ref (xB X 0)), (1, .int a1)]) hx hb dX9_hangSet_3 rfl hl (by decide) rfl (fun ls hl => ?_)
  exact hL4 500 a1 (0 : Int32) (0 : Int32) ls (lv_sub hl [2, 3, 1, 0] rfl) h
set_option maxRecDepth 100000 in
set_option maxHeartbeats 4000000 in
theorem c_X9_daysAgo (l : Launch) (X : gX) (mi : Nat → Int32) (ml : Nat → Int64) (ma : Nat → Nat → Int32) (mb : Nat → Nat → Int64) (a1 : Int32) {o0 : Int32} (h : X9_daysAgo mi ma a1 = some o0) : Met l yX9_daysAgo (Cond.code yX9_daysAgo cX9_daysAgo 3 (some .int) :: gT) { frames := 0, cells := 0, slots := 0, locals := 0 } (va_Pc [.ref (xB X 0), .int a1] (mPre X mi ml ma mb)) (k2_QcV (.int o0)) 0 0 (fun _ => False) := by
  refine Met.ofW (cc := cX9_daysAgo) (maxL := 3) (ret := (some .int)) (by decide) rfl ?_
  intro p e s m args below meth c s₁ B hml hv
  obtain ⟨rfl, hP, hK, hN⟩ := hv
  have hx := B.exec
  have hb := B.bytes
  have hr := B.returns
  have hts := atoms_spec (ws := (Cond.code yX9_daysAgo cX9_daysAgo 3 (some .int) :: gT)) B.pre
  have hT : ∀ w ∈ gT, w.before _ s = true := fun w hw => hts w (List.mem_cons_of_mem _ hw)
  have hown : s.vm.findClass RX9 = some m.cls := findClass_of_methodNamed B.named
  have hlocks := B.notSynchronized
  have hS : va_S (mA X) s.heap s.heap [] := va_S.rf
  have hl := lv_entry ([.ref (xB X 0), .int a1]) (n := 3) (Nat.le_of_ble_eq_true rfl)
  rw [lg_entry_eq]
  generalize (lg_sl ([.ref (xB X 0), .int a1]) ++ List.replicate (3 - (lg_sl ([.ref (xB X 0), .int a1])).length) Slot.unset).toArray = ls at hl ⊢
  have hl : lv_has ls 3 [(0, .ref (xB X 0)), (1, .int a1)] := hl
  rw [X9_daysAgo] at h
  refine lv_aload_n hx hb dX9_daysAgo_0 rfl (lv_at hl 0 rfl) ?_
  refine rg_M_day hx hb hT hown hK hP w_785 dX9_daysAgo_1 ?_
  refine lv_aload_n hx hb dX9_daysAgo_4 rfl (lv_at hl 0 rfl) ?_
  refine rg_M_laughed hx hb hT hown hK hP w_784 dX9_daysAgo_5 ?_
  refine lv_iload_n hx hb dX9_daysAgo_8 rfl (lv_at hl 1 rfl) ?_
  obtain ⟨hi9, h⟩ := gd_e h
  refine ra_m4 hx hb hK hP (ib_in hi9) dX9_daysAgo_9 ?_
  refine lv_isub hx hb dX9_daysAgo_10 ?_
  refine lv_istore_n (lv' := [(2, .int ((mi 1) - (ma 4 a1.toNatClampNeg))), (0, .ref (xB X 0)), (1, .int a1)]) hx hb dX9_daysAgo_11 rfl hl (by decide) rfl (fun ls hl => ?_)
  refine lv_iload_n hx hb dX9_daysAgo_12 rfl (lv_at hl 0 rfl) ?_
  refine lv_sipush (v := 9999) hx hb dX9_daysAgo_13 (by decide) ?_
  refine lv_icmp_le (tgt := 25) hx hb dX9_daysAgo_16 (by decide) (fun c16 => ?_) (fun c16 => ?_)
  · replace h := if_t c16 h
    refine lv_iload_n hx hb dX9_daysAgo_25 rfl (lv_at hl 0 rfl) ?_
    cases h
    exact W.iret hx hb hr (fun t ht _ => ⟨rfl, ht⟩) (fun _ hq => by cases hq) dX9_daysAgo_26
  · replace h := if_f c16 h
    refine lv_sipush (v := 9999) hx hb dX9_daysAgo_19 (by decide) ?_
    refine lv_goto (tgt := 26) hx hb dX9_daysAgo_22 (by decide) ?_
    cases h
    exact W.iret hx hb hr (fun t ht _ => ⟨rfl, ht⟩) (fun _ hq => by cases hq) dX9_daysAgo_26
set_option maxRecDepth 100000 in
set_option maxHeartbeats 4000000 in
theorem c_X9_personOf (l : Launch) (X : gX) (mi : Nat → Int32) (ml : Nat → Int64) (ma : Nat → Nat → Int32) (mb : Nat → Nat → Int64) (a1 : Int32) (a2 : Int32) {o0 : Int32} (h : X9_personOf mi ma a1 a2 = some o0) : Met l yX9_personOf (Cond.code yX9_personOf cX9_personOf 3 (some .int) :: gT) { frames := 1, cells := 0, slots := 0, locals := 23 } (va_Pc [.ref (xB X 0), .int a1, .int a2] (mPre X mi ml ma mb)) (k2_QcV (.int o0)) 0 0 (fun _ => False) := by
  refine Met.ofW (cc := cX9_personOf) (maxL := 3) (ret := (some .int)) (by decide) rfl ?_
  intro p e s m args below meth c s₁ B hml hv
  obtain ⟨rfl, hP, hK, hN⟩ := hv
  have hx := B.exec
  have hb := B.bytes
  have hr := B.returns
  have hts := atoms_spec (ws := (Cond.code yX9_personOf cX9_personOf 3 (some .int) :: gT)) B.pre
  have hT : ∀ w ∈ gT, w.before _ s = true := fun w hw => hts w (List.mem_cons_of_mem _ hw)
  have hown : s.vm.findClass RX9 = some m.cls := findClass_of_methodNamed B.named
  have hlocks := B.notSynchronized
  have hS : va_S (mA X) s.heap s.heap [] := va_S.rf
  have hl := lv_entry ([.ref (xB X 0), .int a1, .int a2]) (n := 3) (Nat.le_of_ble_eq_true rfl)
  rw [lg_entry_eq]
  generalize (lg_sl ([.ref (xB X 0), .int a1, .int a2]) ++ List.replicate (3 - (lg_sl ([.ref (xB X 0), .int a1, .int a2])).length) Slot.unset).toArray = ls at hl ⊢
  have hl : lv_has ls 3 [(0, .ref (xB X 0)), (1, .int a1), (2, .int a2)] := hl
  rw [X9_personOf] at h
  refine lv_iload_n hx hb dX9_personOf_0 rfl (lv_at hl 2 rfl) ?_
  by_cases q1_0 : a2 = (0 : Int32)
  · replace h := if_t q1_0 h
    refine lv_tableIn (tgt := 36) (off := 35) hx hb dX9_personOf_1 (by rw [q1_0]; decide) (by rw [q1_0]; decide) (by rw [q1_0]; rfl) (by decide) ?_
    refine lv_aload_n hx hb dX9_personOf_36 rfl (lv_at hl 0 rfl) ?_
    refine rg_M_kind hx hb hT hown hK hP w_780 dX9_personOf_37 ?_
    refine lv_iload_n hx hb dX9_personOf_40 rfl (lv_at hl 1 rfl) ?_
    obtain ⟨hi41, h⟩ := gd_e h
    refine ra_m0 hx hb hK hP (ib_in hi41) dX9_personOf_41 ?_
    cases h
    exact W.iret hx hb hr (fun t ht _ => ⟨rfl, ht⟩) (fun _ hq => by cases hq) dX9_personOf_42
  replace h := if_f q1_0 h
  by_cases q1_1 : a2 = (1 : Int32)
  · replace h := if_t q1_1 h
    refine lv_tableIn (tgt := 43) (off := 42) hx hb dX9_personOf_1 (by rw [q1_1]; decide) (by rw [q1_1]; decide) (by rw [q1_1]; rfl) (by decide) ?_
    refine lv_aload_n hx hb dX9_personOf_43 rfl (lv_at hl 0 rfl) ?_
    refine rg_M_taste hx hb hT hown hK hP w_781 dX9_personOf_44 ?_
    refine lv_iload_n hx hb dX9_personOf_47 rfl (lv_at hl 1 rfl) ?_
    obtain ⟨hi48, h⟩ := gd_e h
    refine ra_m1 hx hb hK hP (ib_in hi48) dX9_personOf_48 ?_
    cases h
    exact W.iret hx hb hr (fun t ht _ => ⟨rfl, ht⟩) (fun _ hq => by cases hq) dX9_personOf_49
  replace h := if_f q1_1 h
  by_cases q1_2 : a2 = (2 : Int32)
  · replace h := if_t q1_2 h
    refine lv_tableIn (tgt := 50) (off := 49) hx hb dX9_personOf_1 (by rw [q1_2]; decide) (by rw [q1_2]; decide) (by rw [q1_2]; rfl) (by decide) ?_
    refine lv_aload_n hx hb dX9_personOf_50 rfl (lv_at hl 0 rfl) ?_
    refine lv_iload_n hx hb dX9_personOf_51 rfl (lv_at hl 1 rfl) ?_
    obtain ⟨r52, hc52, h⟩ := Option.bind_eq_some_iff.mp h
    refine rcV (As := [.int a1]) (rest := []) ⟨hx, hb, hml, hown, hts⟩ (c_X9_daysAgo l X mi ml ma mb a1 hc52) ⟨w_994, w_996, w_20, w_58, w_997⟩ hd_X9_daysAgo rfl rfl ⟨(Nat.le_of_ble_eq_true rfl), (Nat.le_of_ble_eq_true rfl)⟩ ⟨Nat.zero_le _, Nat.zero_le _⟩ mPre_blind (va_recv hK hP (ci := 5) rfl cM_o) (mPre_call hP hK hN) rfl rfl hl.1 (Nat.le_of_ble_eq_true rfl) dX9_personOf_52 ?_
    cases h
    exact W.iret hx hb hr (fun t ht _ => ⟨rfl, ht⟩) (fun _ hq => by cases hq) dX9_personOf_55
  replace h := if_f q1_2 h
  by_cases q1_3 : a2 = (3 : Int32)
  · replace h := if_t q1_3 h
    refine lv_tableIn (tgt := 56) (off := 55) hx hb dX9_personOf_1 (by rw [q1_3]; decide) (by rw [q1_3]; decide) (by rw [q1_3]; rfl) (by decide) ?_
    refine lv_aload_n hx hb dX9_personOf_56 rfl (lv_at hl 0 rfl) ?_
    refine rg_M_hangs hx hb hT hown hK hP w_782 dX9_personOf_57 ?_
    refine lv_iload_n hx hb dX9_personOf_60 rfl (lv_at hl 1 rfl) ?_
    obtain ⟨hi61, h⟩ := gd_e h
    refine ra_m2 hx hb hK hP (ib_in hi61) dX9_personOf_61 ?_
    cases h
    exact W.iret hx hb hr (fun t ht _ => ⟨rfl, ht⟩) (fun _ hq => by cases hq) dX9_personOf_62
  replace h := if_f q1_3 h
  by_cases q1_4 : a2 = (4 : Int32)
  · replace h := if_t q1_4 h
    refine lv_tableIn (tgt := 63) (off := 62) hx hb dX9_personOf_1 (by rw [q1_4]; decide) (by rw [q1_4]; decide) (by rw [q1_4]; rfl) (by decide) ?_
    refine lv_aload_n hx hb dX9_personOf_63 rfl (lv_at hl 0 rfl) ?_
    refine rg_M_hand hx hb hT hown hK hP w_783 dX9_personOf_64 ?_
    refine lv_iload_n hx hb dX9_personOf_67 rfl (lv_at hl 1 rfl) ?_
    obtain ⟨hi68, h⟩ := gd_e h
    refine ra_m3 hx hb hK hP (ib_in hi68) dX9_personOf_68 ?_
    cases h
    exact W.iret hx hb hr (fun t ht _ => ⟨rfl, ht⟩) (fun _ hq => by cases hq) dX9_personOf_69
  replace h := if_f q1_4 h
  refine lv_tableOut (tgt := 70) hx hb dX9_personOf_1 (by have := tb_0_4 a2 q1_0 q1_1 q1_2 q1_3 q1_4; exact this) (by decide) ?_
  refine lv_aload_n hx hb dX9_personOf_70 rfl (lv_at hl 0 rfl) ?_
  refine lv_iload_n hx hb dX9_personOf_71 rfl (lv_at hl 1 rfl) ?_
  obtain ⟨r72, hc72, h⟩ := Option.bind_eq_some_iff.mp h
  refine rcV (As := [.int a1]) (rest := []) ⟨hx, hb, hml, hown, hts⟩ (c_X9_depthOf l X mi ml ma mb a1 hc72) ⟨w_998, w_1000, w_21, w_58, w_1001⟩ hd_X9_depthOf rfl rfl ⟨(Nat.le_of_ble_eq_true rfl), (Nat.le_of_ble_eq_true rfl)⟩ ⟨Nat.zero_le _, Nat.zero_le _⟩ mPre_blind (va_recv hK hP (ci := 5) rfl cM_o) (mPre_call hP hK hN) rfl rfl hl.1 (Nat.le_of_ble_eq_true rfl) dX9_personOf_72 ?_
  cases h
  exact W.iret hx hb hr (fun t ht _ => ⟨rfl, ht⟩) (fun _ hq => by cases hq) dX9_personOf_75
set_option maxRecDepth 100000 in
set_option maxHeartbeats 4000000 in
theorem c_X9_person (l : Launch) (X : gX) (mi : Nat → Int32) (ml : Nat → Int64) (ma : Nat → Nat → Int32) (mb : Nat → Nat → Int64) (a1 : Int32) (a2 : Int32) {o0 : Int32} {o_mi : Nat → Int32} (h : X9_person ma a1 a2 mi = some (o0, o_mi)) : Met l yX9_person (Cond.code yX9_person cX9_person 3 (some .int) :: gT) { frames := 2, cells := 0, slots := 0, locals := 46 } (va_Pc [.ref (xB X 0), .int a1, .int a2] (mPre X mi ml ma mb)) (wQ (some (.int o0)) (fun H => va_P X.1 vwCl (cM X o_mi ml ma mb) H) (mA X)) 0 0 (mA X) := by
  refine Met.ofW (cc := cX9_person) (maxL := 3) (ret := (some .int)) (by decide) rfl ?_
  intro p e s m args below meth c s₁ B hml hv
  obtain ⟨rfl, hP, hK, hN⟩ := hv
  have hx := B.exec
  have hb := B.bytes
  have hr := B.returns
  have hts := atoms_spec (ws := (Cond.code yX9_person cX9_person 3 (some .int) :: gT)) B.pre
  have hT : ∀ w ∈ gT, w.before _ s = true := fun w hw => hts w (List.mem_cons_of_mem _ hw)
  have hown : s.vm.findClass RX9 = some m.cls := findClass_of_methodNamed B.named
  have hlocks := B.notSynchronized
  have hS : va_S (mA X) s.heap s.heap [] := va_S.rf
  have hl := lv_entry ([.ref (xB X 0), .int a1, .int a2]) (n := 3) (Nat.le_of_ble_eq_true rfl)
  rw [lg_entry_eq]
  generalize (lg_sl ([.ref (xB X 0), .int a1, .int a2]) ++ List.replicate (3 - (lg_sl ([.ref (xB X 0), .int a1, .int a2])).length) Slot.unset).toArray = ls at hl ⊢
  have hl : lv_has ls 3 [(0, .ref (xB X 0)), (1, .int a1), (2, .int a2)] := hl
  rw [X9_person] at h
  refine lv_aload_n hx hb dX9_person_0 rfl (lv_at hl 0 rfl) ?_
  refine lv_iload_n hx hb dX9_person_1 rfl (lv_at hl 1 rfl) ?_
  obtain ⟨r2, hc2, h⟩ := Option.bind_eq_some_iff.mp h
  refine rcV (As := [.int a1]) (rest := []) ⟨hx, hb, hml, hown, hts⟩ (c_X9_isOne l X mi ml ma mb a1 hc2) ⟨w_986, w_988, w_18, w_58, w_989⟩ hd_X9_isOne rfl rfl ⟨(Nat.le_of_ble_eq_true rfl), (Nat.le_of_ble_eq_true rfl)⟩ ⟨Nat.zero_le _, Nat.zero_le _⟩ mPre_blind (va_recv hK hP (ci := 5) rfl cM_o) (mPre_call hP hK hN) rfl rfl hl.1 (Nat.le_of_ble_eq_true rfl) dX9_person_2 ?_
  refine lv_if_eq (tgt := 20) hx hb dX9_person_5 (by decide) (fun c5 => ?_) (fun c5 => ?_)
  · replace h := if_t c5 h
    refine lv_iconst (v := -1) hx hb dX9_person_20 (by decide) ?_
    cases h
    exact W.iret hx hb hr (fun t ht _ => ⟨rfl, by rw [ht]; exact hP, hS.F ht⟩) hS.2.2 dX9_person_21
  · replace h := if_f c5 h
    refine lv_iload_n hx hb dX9_person_8 rfl (lv_at hl 2 rfl) ?_
    refine lv_i2l hx hb dX9_person_9 rfl ?_
    refine lv_lconst (v := 0) hx hb dX9_person_10 (by decide) ?_
    refine lv_ldc2 (v := 5) hx hb hown (hT _ w_911) dX9_person_11 ?_
    obtain ⟨r14, hc14, h⟩ := Option.bind_eq_some_iff.mp h
    refine rcS (As := [.long a2.toInt64, .long (0 : Int64), .long (5 : Int64)]) (rest := []) ⟨hx, hb, hml, hown, hts⟩ (c_X9_in l a2.toInt64 (0 : Int64) (5 : Int64) hc14) ⟨w_912, w_913, w_58, w_914⟩ hd_X9_in rfl rfl ⟨(Nat.le_of_ble_eq_true rfl), (Nat.le_of_ble_eq_true rfl)⟩ ⟨Nat.zero_le _, Nat.zero_le _⟩ (fun _ _ _ _ h => h) (fun _ _ _ => trivial) rfl rfl hl.1 (Nat.le_of_ble_eq_true rfl) dX9_person_14 ?_
    refine lv_if_ne (tgt := 22) hx hb dX9_person_17 (by decide) (fun c17 => ?_) (fun c17 => ?_)
    · replace h := if_f c17 h
      refine lv_aload_n hx hb dX9_person_22 rfl (lv_at hl 0 rfl) ?_
      refine lv_aload_n hx hb dX9_person_23 rfl (lv_at hl 0 rfl) ?_
      refine lv_iload_n hx hb dX9_person_24 rfl (lv_at hl 1 rfl) ?_
      refine lv_iload_n hx hb dX9_person_25 rfl (lv_at hl 2 rfl) ?_
      obtain ⟨r26, hc26, h⟩ := Option.bind_eq_some_iff.mp h
      refine rcV (As := [.int a1, .int a2]) (rest := [.ref (xB X 0)]) ⟨hx, hb, hml, hown, hts⟩ (c_X9_personOf l X mi ml ma mb a1 a2 hc26) ⟨w_990, w_992, w_19, w_58, w_993⟩ hd_X9_personOf rfl rfl ⟨(Nat.le_of_ble_eq_true rfl), (Nat.le_of_ble_eq_true rfl)⟩ ⟨Nat.zero_le _, Nat.zero_le _⟩ mPre_blind (va_recv hK hP (ci := 5) rfl cM_o) (mPre_call hP hK hN) rfl rfl hl.1 (Nat.le_of_ble_eq_true rfl) dX9_person_26 ?_
      refine rp_M_asked hx hb hT hown hK hP hN hS w_791 dX9_person_29 (fun H locs hP hS => ?_)
      generalize emi_29 : va_up mi 3 r26 = mi_29 at hP
      replace h := lt_g h emi_29
      refine lv_iconst (v := 1) hx hb dX9_person_32 (by decide) ?_
      cases h
      exact W.iret hx hb hr (fun t ht _ => ⟨rfl, by rw [ht]; exact hP, hS.F ht⟩) hS.2.2 dX9_person_33
    · replace h := if_t c17 h
      refine lv_iconst (v := -1) hx hb dX9_person_20 (by decide) ?_
      cases h
      exact W.iret hx hb hr (fun t ht _ => ⟨rfl, by rw [ht]; exact hP, hS.F ht⟩) hS.2.2 dX9_person_21
set_option maxRecDepth 100000 in
set_option maxHeartbeats 4000000 in
theorem c_X9_isOf (l : Launch) (X : gX) (mi : Nat → Int32) (ml : Nat → Int64) (ma : Nat → Nat → Int32) (mb : Nat → Nat → Int64) (a1 : Int32) (a2 : Int32) {o0 : Int32} (h : X9_isOf ma a1 a2 = some o0) : Met l yX9_isOf (Cond.code yX9_isOf cX9_isOf 3 (some .boolean) :: gT) { frames := 0, cells := 0, slots := 0, locals := 0 } (va_Pc [.ref (xB X 0), .int a1, .int a2] (mPre X mi ml ma mb)) (k2_QcV (.int o0)) 0 0 (fun _ => False) := by
  refine Met.ofW (cc := cX9_isOf) (maxL := 3) (ret := (some .boolean)) (by decide) rfl ?_
  intro p e s m args below meth c s₁ B hml hv
  obtain ⟨rfl, hP, hK, hN⟩ := hv
  have hx := B.exec
  have hb := B.bytes
  have hr := B.returns
  have hts := atoms_spec (ws := (Cond.code yX9_isOf cX9_isOf 3 (some .boolean) :: gT)) B.pre
  have hT : ∀ w ∈ gT, w.before _ s = true := fun w hw => hts w (List.mem_cons_of_mem _ hw)
  have hown : s.vm.findClass RX9 = some m.cls := findClass_of_methodNamed B.named
  have hlocks := B.notSynchronized
  have hS : va_S (mA X) s.heap s.heap [] := va_S.rf
  have hl := lv_entry ([.ref (xB X 0), .int a1, .int a2]) (n := 3) (Nat.le_of_ble_eq_true rfl)
  rw [lg_entry_eq]
  generalize (lg_sl ([.ref (xB X 0), .int a1, .int a2]) ++ List.replicate (3 - (lg_sl ([.ref (xB X 0), .int a1, .int a2])).length) Slot.unset).toArray = ls at hl ⊢
  have hl : lv_has ls 3 [(0, .ref (xB X 0)), (1, .int a1), (2, .int a2)] := hl
  rw [X9_isOf] at h
  refine lv_aload_n hx hb dX9_isOf_0 rfl (lv_at hl 0 rfl) ?_
  refine rg_M_kind hx hb hT hown hK hP w_780 dX9_isOf_1 ?_
  refine lv_iload_n hx hb dX9_isOf_4 rfl (lv_at hl 1 rfl) ?_
  obtain ⟨hi5, h⟩ := gd_e h
  refine ra_m0 hx hb hK hP (ib_in hi5) dX9_isOf_5 ?_
  refine lv_iload_n hx hb dX9_isOf_6 rfl (lv_at hl 2 rfl) ?_
  refine lv_icmp_eq (tgt := 40) hx hb dX9_isOf_7 (by decide) (fun c7 => ?_) (fun c7 => ?_)
  · replace h := if_t c7 h
    refine lv_iconst (v := 1) hx hb dX9_isOf_40 (by decide) ?_
    refine lv_goto (tgt := 45) hx hb dX9_isOf_41 (by decide) ?_
    cases h
    exact W.zret (ty := .boolean) hx hb hr rfl (fun t ht _ => ⟨rfl, ht⟩) (fun _ hq => by cases hq) dX9_isOf_45
  · replace h := if_f c7 h
    refine lv_iload_n hx hb dX9_isOf_10 rfl (lv_at hl 2 rfl) ?_
    refine lv_iconst (v := 1) hx hb dX9_isOf_11 (by decide) ?_
    refine lv_icmp_ne (tgt := 25) hx hb dX9_isOf_12 (by decide) (fun c12 => ?_) (fun c12 => ?_)
    · replace h := if_f c12 h
      refine lv_iload_n hx hb dX9_isOf_25 rfl (lv_at hl 2 rfl) ?_
      refine lv_iconst (v := 2) hx hb dX9_isOf_26 (by decide) ?_
      refine lv_icmp_ne (tgt := 44) hx hb dX9_isOf_27 (by decide) (fun c27 => ?_) (fun c27 => ?_)
      · replace h := if_f c27 h
        refine lv_iconst (v := 0) hx hb dX9_isOf_44 (by decide) ?_
        cases h
        exact W.zret (ty := .boolean) hx hb hr rfl (fun t ht _ => ⟨rfl, ht⟩) (fun _ hq => by cases hq) dX9_isOf_45
      · replace h := if_t c27 h
        refine lv_aload_n hx hb dX9_isOf_30 rfl (lv_at hl 0 rfl) ?_
        refine rg_M_kind hx hb hT hown hK hP w_780 dX9_isOf_31 ?_
        refine lv_iload_n hx hb dX9_isOf_34 rfl (lv_at hl 1 rfl) ?_
        obtain ⟨hi35, h⟩ := gd_e h
        refine ra_m0 hx hb hK hP (ib_in hi35) dX9_isOf_35 ?_
        refine lv_iconst (v := 4) hx hb dX9_isOf_36 (by decide) ?_
        refine lv_icmp_ne (tgt := 44) hx hb dX9_isOf_37 (by decide) (fun c37 => ?_) (fun c37 => ?_)
        · replace h := if_f c37 h
          refine lv_iconst (v := 0) hx hb dX9_isOf_44 (by decide) ?_
          cases h
          exact W.zret (ty := .boolean) hx hb hr rfl (fun t ht _ => ⟨rfl, ht⟩) (fun _ hq => by cases hq) dX9_isOf_45
        · replace h := if_t c37 h
          refine lv_iconst (v := 1) hx hb dX9_isOf_40 (by decide) ?_
          refine lv_goto (tgt := 45) hx hb dX9_isOf_41 (by decide) ?_
          cases h
          exact W.zret (ty := .boolean) hx hb hr rfl (fun t ht _ => ⟨rfl, ht⟩) (fun _ hq => by cases hq) dX9_isOf_45
    · replace h := if_t c12 h
      refine lv_aload_n hx hb dX9_isOf_15 rfl (lv_at hl 0 rfl) ?_
      refine rg_M_kind hx hb hT hown hK hP w_780 dX9_isOf_16 ?_
      refine lv_iload_n hx hb dX9_isOf_19 rfl (lv_at hl 1 rfl) ?_
      obtain ⟨hi20, h⟩ := gd_e h
      refine ra_m0 hx hb hK hP (ib_in hi20) dX9_isOf_20 ?_
      refine lv_iconst (v := 5) hx hb dX9_isOf_21 (by decide) ?_
      refine lv_icmp_eq (tgt := 40) hx hb dX9_isOf_22 (by decide) (fun c22 => ?_) (fun c22 => ?_)
      · replace h := if_t c22 h
        refine lv_iconst (v := 1) hx hb dX9_isOf_40 (by decide) ?_
        refine lv_goto (tgt := 45) hx hb dX9_isOf_41 (by decide) ?_
        cases h
        exact W.zret (ty := .boolean) hx hb hr rfl (fun t ht _ => ⟨rfl, ht⟩) (fun _ hq => by cases hq) dX9_isOf_45
      · replace h := if_f c22 h
        refine lv_iload_n hx hb dX9_isOf_25 rfl (lv_at hl 2 rfl) ?_
        refine lv_iconst (v := 2) hx hb dX9_isOf_26 (by decide) ?_
        refine lv_icmp_ne (tgt := 44) hx hb dX9_isOf_27 (by decide) (fun c27 => ?_) (fun c27 => ?_)
        · replace h := if_f c27 h
          refine lv_iconst (v := 0) hx hb dX9_isOf_44 (by decide) ?_
          cases h
          exact W.zret (ty := .boolean) hx hb hr rfl (fun t ht _ => ⟨rfl, ht⟩) (fun _ hq => by cases hq) dX9_isOf_45
        · replace h := if_t c27 h
          refine lv_aload_n hx hb dX9_isOf_30 rfl (lv_at hl 0 rfl) ?_
          refine rg_M_kind hx hb hT hown hK hP w_780 dX9_isOf_31 ?_
          refine lv_iload_n hx hb dX9_isOf_34 rfl (lv_at hl 1 rfl) ?_
          obtain ⟨hi35, h⟩ := gd_e h
          refine ra_m0 hx hb hK hP (ib_in hi35) dX9_isOf_35 ?_
          refine lv_iconst (v := 4) hx hb dX9_isOf_36 (by decide) ?_
          refine lv_icmp_ne (tgt := 44) hx hb dX9_isOf_37 (by decide) (fun c37 => ?_) (fun c37 => ?_)
          · replace h := if_f c37 h
            refine lv_iconst (v := 0) hx hb dX9_isOf_44 (by decide) ?_
            cases h
            exact W.zret (ty := .boolean) hx hb hr rfl (fun t ht _ => ⟨rfl, ht⟩) (fun _ hq => by cases hq) dX9_isOf_45
          · replace h := if_t c37 h
            refine lv_iconst (v := 1) hx hb dX9_isOf_40 (by decide) ?_
            refine lv_goto (tgt := 45) hx hb dX9_isOf_41 (by decide) ?_
            cases h
            exact W.zret (ty := .boolean) hx hb hr rfl (fun t ht _ => ⟨rfl, ht⟩) (fun _ hq => by cases hq) dX9_isOf_45
set_option maxRecDepth 100000 in
set_option maxHeartbeats 4000000 in
theorem c_X9_sightOf (l : Launch) (X : gX) (mi : Nat → Int32) (ml : Nat → Int64) (ma : Nat → Nat → Int32) (mb : Nat → Nat → Int64) (a1 : Int32) {o0 : Int32} (h : X9_sightOf mi ma a1 = some o0) : Met l yX9_sightOf (Cond.code yX9_sightOf cX9_sightOf 2 (some .int) :: gT) { frames := 2, cells := 0, slots := 0, locals := 46 } (va_Pc [.ref (xB X 0), .int a1] (mPre X mi ml ma mb)) (k2_QcV (.int o0)) 0 0 (fun _ => False) := by
  refine Met.ofW (cc := cX9_sightOf) (maxL := 2) (ret := (some .int)) (by decide) rfl ?_
  intro p e s m args below meth c s₁ B hml hv
  obtain ⟨rfl, hP, hK, hN⟩ := hv
  have hx := B.exec
  have hb := B.bytes
  have hr := B.returns
  have hts := atoms_spec (ws := (Cond.code yX9_sightOf cX9_sightOf 2 (some .int) :: gT)) B.pre
  have hT : ∀ w ∈ gT, w.before _ s = true := fun w hw => hts w (List.mem_cons_of_mem _ hw)
  have hown : s.vm.findClass RX9 = some m.cls := findClass_of_methodNamed B.named
  have hlocks := B.notSynchronized
  have hS : va_S (mA X) s.heap s.heap [] := va_S.rf
  have hl := lv_entry ([.ref (xB X 0), .int a1]) (n := 2) (Nat.le_of_ble_eq_true rfl)
  rw [lg_entry_eq]
  generalize (lg_sl ([.ref (xB X 0), .int a1]) ++ List.replicate (2 - (lg_sl ([.ref (xB X 0), .int a1])).length) Slot.unset).toArray = ls at hl ⊢
  have hl : lv_has ls 2 [(0, .ref (xB X 0)), (1, .int a1)] := hl
  rw [X9_sightOf] at h
  refine lv_aload_n hx hb dX9_sightOf_0 rfl (lv_at hl 0 rfl) ?_
  refine rg_M_kind hx hb hT hown hK hP w_780 dX9_sightOf_1 ?_
  refine lv_iload_n hx hb dX9_sightOf_4 rfl (lv_at hl 1 rfl) ?_
  obtain ⟨hi5, h⟩ := gd_e h
  refine ra_m0 hx hb hK hP (ib_in hi5) dX9_sightOf_5 ?_
  refine lv_iconst (v := 4) hx hb dX9_sightOf_6 (by decide) ?_
  refine lv_icmp_ne (tgt := 17) hx hb dX9_sightOf_7 (by decide) (fun c7 => ?_) (fun c7 => ?_)
  · replace h := if_f c7 h
    refine lv_aload_n hx hb dX9_sightOf_17 rfl (lv_at hl 0 rfl) ?_
    obtain ⟨r18, hc18, h⟩ := Option.bind_eq_some_iff.mp h
    refine rcV (As := []) (rest := []) ⟨hx, hb, hml, hown, hts⟩ (c_X9_stuckSet l X mi ml ma mb hc18) ⟨w_1022, w_1024, w_26, w_58, w_1025⟩ hd_X9_stuckSet rfl rfl ⟨(Nat.le_of_ble_eq_true rfl), (Nat.le_of_ble_eq_true rfl)⟩ ⟨Nat.zero_le _, Nat.zero_le _⟩ mPre_blind (va_recv hK hP (ci := 5) rfl cM_o) (mPre_call hP hK hN) rfl rfl hl.1 (Nat.le_of_ble_eq_true rfl) dX9_sightOf_18 ?_
    obtain ⟨r21, hc21, h⟩ := Option.bind_eq_some_iff.mp h
    refine rcS (As := [.int r18]) (rest := []) ⟨hx, hb, hml, hown, hts⟩ (c_X9_bits l r18 hc21) ⟨w_1030, w_1031, w_58, w_1032⟩ hd_X9_bits rfl rfl ⟨(Nat.le_of_ble_eq_true rfl), (Nat.le_of_ble_eq_true rfl)⟩ ⟨Nat.zero_le _, Nat.zero_le _⟩ (fun _ _ _ _ h => h) (fun _ _ _ => trivial) rfl rfl hl.1 (Nat.le_of_ble_eq_true rfl) dX9_sightOf_21 ?_
    cases h
    exact W.iret hx hb hr (fun t ht _ => ⟨rfl, ht⟩) (fun _ hq => by cases hq) dX9_sightOf_24
  · replace h := if_t c7 h
    refine lv_aload_n hx hb dX9_sightOf_10 rfl (lv_at hl 0 rfl) ?_
    obtain ⟨r11, hc11, h⟩ := Option.bind_eq_some_iff.mp h
    refine rcV (As := []) (rest := []) ⟨hx, hb, hml, hown, hts⟩ (c_X9_deepest l X mi ml ma mb hc11) ⟨w_1018, w_1020, w_25, w_58, w_1021⟩ hd_X9_deepest rfl rfl ⟨(Nat.le_of_ble_eq_true rfl), (Nat.le_of_ble_eq_true rfl)⟩ ⟨Nat.zero_le _, Nat.zero_le _⟩ mPre_blind (va_recv hK hP (ci := 5) rfl cM_o) (mPre_call hP hK hN) rfl rfl hl.1 (Nat.le_of_ble_eq_true rfl) dX9_sightOf_11 ?_
    refine lv_goto (tgt := 24) hx hb dX9_sightOf_14 (by decide) ?_
    cases h
    exact W.iret hx hb hr (fun t ht _ => ⟨rfl, ht⟩) (fun _ hq => by cases hq) dX9_sightOf_24
set_option maxRecDepth 100000 in
set_option maxHeartbeats 4000000 in
theorem c_X9_shortOf (l : Launch) (X : gX) (mi : Nat → Int32) (ml : Nat → Int64) (ma : Nat → Nat → Int32) (mb : Nat → Nat → Int64) (a1 : Int32) {o0 : Int32} (h : X9_shortOf mi ma a1 = some o0) : Met l yX9_shortOf (Cond.code yX9_shortOf cX9_shortOf 3 (some .int) :: gT) { frames := 3, cells := 0, slots := 0, locals := 67 } (va_Pc [.ref (xB X 0), .int a1] (mPre X mi ml ma mb)) (k2_QcV (.int o0)) 0 0 (fun _ => False) := by
  refine Met.ofW (cc := cX9_shortOf) (maxL := 3) (ret := (some .int)) (by decide) rfl ?_
  intro p e s m args below meth c s₁ B hml hv
  obtain ⟨rfl, hP, hK, hN⟩ := hv
  have hx := B.exec
  have hb := B.bytes
  have hr := B.returns
  have hts := atoms_spec (ws := (Cond.code yX9_shortOf cX9_shortOf 3 (some .int) :: gT)) B.pre
  have hT : ∀ w ∈ gT, w.before _ s = true := fun w hw => hts w (List.mem_cons_of_mem _ hw)
  have hown : s.vm.findClass RX9 = some m.cls := findClass_of_methodNamed B.named
  have hlocks := B.notSynchronized
  have hS : va_S (mA X) s.heap s.heap [] := va_S.rf
  have hl := lv_entry ([.ref (xB X 0), .int a1]) (n := 3) (Nat.le_of_ble_eq_true rfl)
  rw [lg_entry_eq]
  generalize (lg_sl ([.ref (xB X 0), .int a1]) ++ List.replicate (3 - (lg_sl ([.ref (xB X 0), .int a1])).length) Slot.unset).toArray = ls at hl ⊢
  have hl : lv_has ls 3 [(0, .ref (xB X 0)), (1, .int a1)] := hl
  rw [X9_shortOf] at h
  refine lv_aload_n hx hb dX9_shortOf_0 rfl (lv_at hl 0 rfl) ?_
  refine rg_M_taste hx hb hT hown hK hP w_781 dX9_shortOf_1 ?_
  refine lv_iload_n hx hb dX9_shortOf_4 rfl (lv_at hl 1 rfl) ?_
  obtain ⟨hi5, h⟩ := gd_e h
  refine ra_m1 hx hb hK hP (ib_in hi5) dX9_shortOf_5 ?_
  refine lv_iconst (v := 1) hx hb dX9_shortOf_6 (by decide) ?_
  refine lv_iadd hx hb dX9_shortOf_7 ?_
  refine lv_aload_n hx hb dX9_shortOf_8 rfl (lv_at hl 0 rfl) ?_
  refine lv_iload_n hx hb dX9_shortOf_9 rfl (lv_at hl 1 rfl) ?_
  obtain ⟨r10, hc10, h⟩ := Option.bind_eq_some_iff.mp h
  refine rcV (As := [.int a1]) (rest := [.int ((ma 1 a1.toNatClampNeg) + (1 : Int32))]) ⟨hx, hb, hml, hown, hts⟩ (c_X9_sightOf l X mi ml ma mb a1 hc10) ⟨w_1014, w_1016, w_24, w_58, w_1017⟩ hd_X9_sightOf rfl rfl ⟨(Nat.le_of_ble_eq_true rfl), (Nat.le_of_ble_eq_true rfl)⟩ ⟨Nat.zero_le _, Nat.zero_le _⟩ mPre_blind (va_recv hK hP (ci := 5) rfl cM_o) (mPre_call hP hK hN) rfl rfl hl.1 (Nat.le_of_ble_eq_true rfl) dX9_shortOf_10 ?_
  refine lv_isub hx hb dX9_shortOf_13 ?_
  refine lv_istore_n (lv' := [(2, .int (((ma 1 a1.toNatClampNeg) + (1 : Int32)) - r10)), (0, .ref (xB X 0)), (1, .int a1)]) hx hb dX9_shortOf_14 rfl hl (by decide) rfl (fun ls hl => ?_)
  refine lv_iload_n hx hb dX9_shortOf_15 rfl (lv_at hl 0 rfl) ?_
  refine lv_if_ge (tgt := 23) hx hb dX9_shortOf_16 (by decide) (fun c16 => ?_) (fun c16 => ?_)
  · replace h := if_t c16 h
    refine lv_iload_n hx hb dX9_shortOf_23 rfl (lv_at hl 0 rfl) ?_
    cases h
    exact W.iret hx hb hr (fun t ht _ => ⟨rfl, ht⟩) (fun _ hq => by cases hq) dX9_shortOf_24
  · replace h := if_f c16 h
    refine lv_iconst (v := 0) hx hb dX9_shortOf_19 (by decide) ?_
    refine lv_goto (tgt := 24) hx hb dX9_shortOf_20 (by decide) ?_
    cases h
    exact W.iret hx hb hr (fun t ht _ => ⟨rfl, ht⟩) (fun _ hq => by cases hq) dX9_shortOf_24
set_option maxRecDepth 100000 in
set_option maxHeartbeats 4000000 in
theorem c_X9_hangOnChildren (l : Launch) (X : gX) (mi : Nat → Int32) (ml : Nat → Int64) (ma : Nat → Nat → Int32) (mb : Nat → Nat → Int64) {o0 : Int32} (h : X9_hangOnChildren mi ma = some o0) : Met l yX9_hangOnChildren (Cond.code yX9_hangOnChildren cX9_hangOnChildren 3 (some .int) :: gT) { frames := 1, cells := 0, slots := 0, locals := 25 } (va_Pc [.ref (xB X 0)] (mPre X mi ml ma mb)) (k2_QcV (.int o0)) 0 0 (fun _ => False) := by
  refine Met.ofW (cc := cX9_hangOnChildren) (maxL := 3) (ret := (some .int)) (by decide) rfl ?_
  intro p e s m args below meth c s₁ B hml hv
  obtain ⟨rfl, hP, hK, hN⟩ := hv
  have hx := B.exec
  have hb := B.bytes
  have hr := B.returns
  have hts := atoms_spec (ws := (Cond.code yX9_hangOnChildren cX9_hangOnChildren 3 (some .int) :: gT)) B.pre
  have hT : ∀ w ∈ gT, w.before _ s = true := fun w hw => hts w (List.mem_cons_of_mem _ hw)
  have hown : s.vm.findClass RX9 = some m.cls := findClass_of_methodNamed B.named
  have hlocks := B.notSynchronized
  have hS : va_S (mA X) s.heap s.heap [] := va_S.rf
  have hl := lv_entry ([.ref (xB X 0)]) (n := 3) (Nat.le_of_ble_eq_true rfl)
  rw [lg_entry_eq]
  generalize (lg_sl ([.ref (xB X 0)]) ++ List.replicate (3 - (lg_sl ([.ref (xB X 0)])).length) Slot.unset).toArray = ls at hl ⊢
  have hl : lv_has ls 3 [(0, .ref (xB X 0))] := hl
  have hL4 : ∀ (n4 : Nat) (v1 : Int32) (v2 : Int32) (ls : Array Slot), lv_has ls 3 [(0, .ref (xB X 0)), (1, .int v1), (2, .int v2)] → X9_hangOnChildren_4 mi ma n4 v1 v2 = some o0 → W p l e (headSpec (Cond.code yX9_hangOnChildren cX9_hangOnChildren 3 (some .int) :: gT) { frames := 1, cells := 0, slots := 0, locals := 25 }).room s m [.ref (xB X 0)].toArray below meth c s.heap [] 0 0 (MQ below (k2_QcV (.int o0)) [.ref (xB X 0)].toArray s 0 0 (fun _ => False)) (F0 m 4 ls []) := by
    intro n4
    induction n4 with
    | zero =>
      intro v1 v2 ls hl h
      rw [X9_hangOnChildren_4] at h
      cases h
    | succ n4 ih4 =>
      intro v1 v2 ls hl h
      rw [X9_hangOnChildren_4] at h
      refine lv_iload_n hx hb dX9_hangOnChildren_4 rfl (lv_at hl 2 rfl) ?_
      refine lv_aload_n hx hb dX9_hangOnChildren_5 rfl (lv_at hl 0 rfl) ?_
      refine rg_M_people hx hb hT hown hK hP w_779 dX9_hangOnChildren_6 ?_
      refine lv_icmp_ge (tgt := 58) hx hb dX9_hangOnChildren_9 (by decide) (fun c9 => ?_) (fun c9 => ?_)
      · replace h := if_t c9 h
        refine lv_iload_n hx hb dX9_hangOnChildren_58 rfl (lv_at hl 1 rfl) ?_
        cases h
        exact W.iret hx hb hr (fun t ht _ => ⟨rfl, ht⟩) (fun _ hq => by cases hq) dX9_hangOnChildren_59
      · replace h := if_f c9 h
        refine lv_iload_n hx hb dX9_hangOnChildren_12 rfl (lv_at hl 1 rfl) ?_
        refine lv_aload_n hx hb dX9_hangOnChildren_13 rfl (lv_at hl 0 rfl) ?_
        refine rg_M_hangs hx hb hT hown hK hP w_782 dX9_hangOnChildren_14 ?_
        refine lv_iload_n hx hb dX9_hangOnChildren_17 rfl (lv_at hl 2 rfl) ?_
        obtain ⟨hi18, h⟩ := gd_e h
        refine ra_m2 hx hb hK hP (ib_in hi18) dX9_hangOnChildren_18 ?_
        refine lv_i2l hx hb dX9_hangOnChildren_19 rfl ?_
        refine lv_lconst (v := 0) hx hb dX9_hangOnChildren_20 (by decide) ?_
        refine lv_ldc2 (v := 6) hx hb hown (hT _ w_1037) dX9_hangOnChildren_21 ?_
        obtain ⟨r24, hc24, h⟩ := Option.bind_eq_some_iff.mp h
        refine rcS (As := [.long ((ma 2 v2.toNatClampNeg).toInt64), .long (0 : Int64), .long (6 : Int64)]) (rest := [.int v1]) ⟨hx, hb, hml, hown, hts⟩ (c_X9_in l ((ma 2 v2.toNatClampNeg).toInt64) (0 : Int64) (6 : Int64) hc24) ⟨w_912, w_913, w_58, w_914⟩ hd_X9_in rfl rfl ⟨(Nat.le_of_ble_eq_true rfl), (Nat.le_of_ble_eq_true rfl)⟩ ⟨Nat.zero_le _, Nat.zero_le _⟩ (fun _ _ _ _ h => h) (fun _ _ _ => trivial) rfl rfl hl.1 (Nat.le_of_ble_eq_true rfl) dX9_hangOnChildren_24 ?_
        refine lv_if_eq (tgt := 49) hx hb dX9_hangOnChildren_27 (by decide) (fun c27 => ?_) (fun c27 => ?_)
        · replace h := if_t c27 h
          refine lv_iconst (v := 0) hx hb dX9_hangOnChildren_49 (by decide) ?_
          refine lv_iadd hx hb dX9_hangOnChildren_50 ?_
          refine lv_istore_n (lv' := [(1, .int (v1 + (0 : Int32))), (0, .ref (xB X 0)), (2, .int v2)]) hx hb dX9_hangOnChildren_51 rfl hl (by decide) rfl (fun ls hl => ?_)
          refine lv_iinc (v := (v2 + (1 : Int32))) (lv' := [(2, .int (v2 + (1 : Int32))), (1, .int (v1 + (0 : Int32))), (0, .ref (xB X 0))]) hx hb dX9_hangOnChildren_52 hl (k := 2) rfl rfl (by decide) rfl (fun ls hl => ?_)
          refine lv_goto (tgt := 4) hx hb dX9_hangOnChildren_55 (by decide) ?_
          exact ih4 (v1 + (0 : Int32)) (v2 + (1 : Int32)) ls (lv_sub hl [2, 1, 0] rfl) h
        · replace h := if_f c27 h
          refine lv_aload_n hx hb dX9_hangOnChildren_30 rfl (lv_at hl 0 rfl) ?_
          refine rg_M_kind hx hb hT hown hK hP w_780 dX9_hangOnChildren_31 ?_
          refine lv_aload_n hx hb dX9_hangOnChildren_34 rfl (lv_at hl 0 rfl) ?_
          refine rg_M_hangs hx hb hT hown hK hP w_782 dX9_hangOnChildren_35 ?_
          refine lv_iload_n hx hb dX9_hangOnChildren_38 rfl (lv_at hl 2 rfl) ?_
          obtain ⟨hi39, h⟩ := gd_e h
          refine ra_m2 hx hb hK hP (ib_in hi39) dX9_hangOnChildren_39 ?_
          obtain ⟨hi40, h⟩ := gd_e h
          refine ra_m0 hx hb hK hP (ib_in hi40) dX9_hangOnChildren_40 ?_
          refine lv_iconst (v := 3) hx hb dX9_hangOnChildren_41 (by decide) ?_
          refine lv_icmp_ne (tgt := 49) hx hb dX9_hangOnChildren_42 (by decide) (fun c42 => ?_) (fun c42 => ?_)
          · replace h := if_f c42 h
            refine lv_iconst (v := 0) hx hb dX9_hangOnChildren_49 (by decide) ?_
            refine lv_iadd hx hb dX9_hangOnChildren_50 ?_
            refine lv_istore_n (lv' := [(1, .int (v1 + (0 : Int32))), (0, .ref (xB X 0)), (2, .int v2)]) hx hb dX9_hangOnChildren_51 rfl hl (by decide) rfl (fun ls hl => ?_)
            refine lv_iinc (v := (v2 + (1 : Int32))) (lv' := [(2, .int (v2 + (1 : Int32))), (1, .int (v1 + (0 : Int32))), (0, .ref (xB X 0))]) hx hb dX9_hangOnChildren_52 hl (k := 2) rfl rfl (by decide) rfl (fun ls hl => ?_)
            refine lv_goto (tgt := 4) hx hb dX9_hangOnChildren_55 (by decide) ?_
            exact ih4 (v1 + (0 : Int32)) (v2 + (1 : Int32)) ls (lv_sub hl [2, 1, 0] rfl) h
          · replace h := if_t c42 h
            refine lv_iconst (v := 1) hx hb dX9_hangOnChildren_45 (by decide) ?_
            refine lv_goto (tgt := 50) hx hb dX9_hangOnChildren_46 (by decide) ?_
            refine lv_iadd hx hb dX9_hangOnChildren_50 ?_
            refine lv_istore_n (lv' := [(1, .int (v1 + (1 : Int32))), (0, .ref (xB X 0)), (2, .int v2)]) hx hb dX9_hangOnChildren_51 rfl hl (by decide) rfl (fun ls hl => ?_)
            refine lv_iinc (v := (v2 + (1 : Int32))) (lv' := [(2, .int (v2 + (1 : Int32))), (1, .int (v1 + (1 : Int32))), (0, .ref (xB X 0))]) hx hb dX9_hangOnChildren_52 hl (k := 2) rfl rfl (by decide) rfl (fun ls hl => ?_)
            refine lv_goto (tgt := 4) hx hb dX9_hangOnChildren_55 (by decide) ?_
            exact ih4 (v1 + (1 : Int32)) (v2 + (1 : Int32)) ls (lv_sub hl [2, 1, 0] rfl) h
  rw [X9_hangOnChildren] at h
  refine lv_iconst (v := 0) hx hb dX9_hangOnChildren_0 (by decide) ?_
  refine lv_istore_n (lv' := [(1, .int (0 : Int32)), (0, .ref (xB X 0))]) hx hb dX9_hangOnChildren_1 rfl hl (by decide) rfl (fun ls hl => ?_)
  refine lv_iconst (v := 0) hx hb dX9_hangOnChildren_2 (by decide) ?_
  refine lv_istore_n (lv' := [(2, .int (0 : Int32)), (1, .int (0 : Int32)), (0, .ref (xB X 0))]) hx hb dX9_hangOnChildren_3 rfl hl (by decide) rfl (fun ls hl => ?_)
  exact hL4 500 (0 : Int32) (0 : Int32) ls (lv_sub hl [2, 1, 0] rfl) h
set_option maxRecDepth 100000 in
set_option maxHeartbeats 4000000 in
theorem c_X9_passings (l : Launch) (X : gX) (mi : Nat → Int32) (ml : Nat → Int64) (ma : Nat → Nat → Int32) (mb : Nat → Nat → Int64) (a1 : Int32) (a2 : Int32) {o0 : Int32} (h : X9_passings ma a1 a2 = some o0) : Met l yX9_passings (Cond.code yX9_passings cX9_passings 7 (some .int) :: gT) { frames := 1, cells := 0, slots := 0, locals := 23 } (va_Pc [.ref (xB X 0), .int a1, .int a2] (mPre X mi ml ma mb)) (k2_QcV (.int o0)) 0 0 (fun _ => False) := by
  refine Met.ofW (cc := cX9_passings) (maxL := 7) (ret := (some .int)) (by decide) rfl ?_
  intro p e s m args below meth c s₁ B hml hv
  obtain ⟨rfl, hP, hK, hN⟩ := hv
  have hx := B.exec
  have hb := B.bytes
  have hr := B.returns
  have hts := atoms_spec (ws := (Cond.code yX9_passings cX9_passings 7 (some .int) :: gT)) B.pre
  have hT : ∀ w ∈ gT, w.before _ s = true := fun w hw => hts w (List.mem_cons_of_mem _ hw)
  have hown : s.vm.findClass RX9 = some m.cls := findClass_of_methodNamed B.named
  have hlocks := B.notSynchronized
  have hS : va_S (mA X) s.heap s.heap [] := va_S.rf
  have hl := lv_entry ([.ref (xB X 0), .int a1, .int a2]) (n := 7) (Nat.le_of_ble_eq_true rfl)
  rw [lg_entry_eq]
  generalize (lg_sl ([.ref (xB X 0), .int a1, .int a2]) ++ List.replicate (7 - (lg_sl ([.ref (xB X 0), .int a1, .int a2])).length) Slot.unset).toArray = ls at hl ⊢
  have hl : lv_has ls 7 [(0, .ref (xB X 0)), (1, .int a1), (2, .int a2)] := hl
  have hL181 : ∀ (v5 : Int32) (ls : Array Slot), lv_has ls 7 [(5, .int v5)] → X9_passings_181 ma v5 = some o0 → W p l e (headSpec (Cond.code yX9_passings cX9_passings 7 (some .int) :: gT) { frames := 1, cells := 0, slots := 0, locals := 23 }).room s m [.ref (xB X 0), .int a1, .int a2].toArray below meth c s.heap [] 0 0 (MQ below (k2_QcV (.int o0)) [.ref (xB X 0), .int a1, .int a2].toArray s 0 0 (fun _ => False)) (F0 m 181 ls []) := by
    intro v5 ls hl h
    rw [X9_passings_181] at h
    refine lv_iconst (v := 0) hx hb dX9_passings_181 (by decide) ?_
    refine lv_istore (lv' := [(6, .int (0 : Int32)), (5, .int v5)]) hx hb dX9_passings_182 hl (by decide) rfl (fun ls hl => ?_)
    refine lv_iload hx hb dX9_passings_184 (lv_at hl 0 rfl) ?_
    refine lv_if_eq (tgt := 194) hx hb dX9_passings_186 (by decide) (fun c186 => ?_) (fun c186 => ?_)
    · replace h := if_t c186 h
      refine lv_iconst (v := -1) hx hb dX9_passings_194 (by decide) ?_
      cases h
      exact W.iret hx hb hr (fun t ht _ => ⟨rfl, ht⟩) (fun _ hq => by cases hq) dX9_passings_195
    · replace h := if_f c186 h
      refine lv_iload hx hb dX9_passings_189 (lv_at hl 1 rfl) ?_
      refine lv_goto (tgt := 195) hx hb dX9_passings_191 (by decide) ?_
      cases h
      exact W.iret hx hb hr (fun t ht _ => ⟨rfl, ht⟩) (fun _ hq => by cases hq) dX9_passings_195
  have hL145 : ∀ (v2 : Int32) (v3 : Int32) (v4 : Int32) (v5 : Int32) (v6 : Int32) (ls : Array Slot), lv_has ls 7 [(0, .ref (xB X 0)), (2, .int v2), (3, .int v3), (4, .int v4), (5, .int v5), (6, .int v6)] → X9_passings_145 ma v2 v3 v4 v5 v6 = some o0 → W p l e (headSpec (Cond.code yX9_passings cX9_passings 7 (some .int) :: gT) { frames := 1, cells := 0, slots := 0, locals := 23 }).room s m [.ref (xB X 0), .int a1, .int a2].toArray below meth c s.heap [] 0 0 (MQ below (k2_QcV (.int o0)) [.ref (xB X 0), .int a1, .int a2].toArray s 0 0 (fun _ => False)) (F0 m 145 ls []) := by
    intro v2 v3 v4 v5 v6 ls hl h
    rw [X9_passings_145] at h
    refine lv_iload hx hb dX9_passings_145 (lv_at hl 5 rfl) ?_
    refine lv_if_eq (tgt := 181) hx hb dX9_passings_147 (by decide) (fun c147 => ?_) (fun c147 => ?_)
    · replace h := if_t c147 h
      exact hL181 v5 ls (lv_sub hl [4] rfl) h
    · replace h := if_f c147 h
      refine lv_iload_n hx hb dX9_passings_150 rfl (lv_at hl 2 rfl) ?_
      refine lv_iload hx hb dX9_passings_151 (lv_at hl 3 rfl) ?_
      refine lv_icmp_ne (tgt := 181) hx hb dX9_passings_153 (by decide) (fun c153 => ?_) (fun c153 => ?_)
      · replace h := if_f c153 h
        exact hL181 v5 ls (lv_sub hl [4] rfl) h
      · replace h := if_t c153 h
        refine lv_iload_n hx hb dX9_passings_156 rfl (lv_at hl 2 rfl) ?_
        refine lv_bipush (v := 9) hx hb dX9_passings_157 (by decide) ?_
        refine lv_icmp_eq (tgt := 181) hx hb dX9_passings_159 (by decide) (fun c159 => ?_) (fun c159 => ?_)
        · replace h := if_t c159 h
          exact hL181 v5 ls (lv_sub hl [4] rfl) h
        · replace h := if_f c159 h
          refine lv_iload_n hx hb dX9_passings_162 rfl (lv_at hl 2 rfl) ?_
          refine lv_iload_n hx hb dX9_passings_163 rfl (lv_at hl 1 rfl) ?_
          refine lv_icmp_eq (tgt := 177) hx hb dX9_passings_164 (by decide) (fun c164 => ?_) (fun c164 => ?_)
          · replace h := if_t c164 h
            refine lv_iconst (v := 1) hx hb dX9_passings_177 (by decide) ?_
            refine lv_goto (tgt := 182) hx hb dX9_passings_178 (by decide) ?_
            refine lv_istore (lv' := [(6, .int (1 : Int32)), (0, .ref (xB X 0)), (2, .int v2), (3, .int v3), (4, .int v4), (5, .int v5)]) hx hb dX9_passings_182 hl (by decide) rfl (fun ls hl => ?_)
            refine lv_iload hx hb dX9_passings_184 (lv_at hl 0 rfl) ?_
            refine lv_if_eq (tgt := 194) hx hb dX9_passings_186 (by decide) (fun c186 => ?_) (fun c186 => ?_)
            · replace h := if_t c186 h
              refine lv_iconst (v := -1) hx hb dX9_passings_194 (by decide) ?_
              cases h
              exact W.iret hx hb hr (fun t ht _ => ⟨rfl, ht⟩) (fun _ hq => by cases hq) dX9_passings_195
            · replace h := if_f c186 h
              refine lv_iload hx hb dX9_passings_189 (lv_at hl 5 rfl) ?_
              refine lv_goto (tgt := 195) hx hb dX9_passings_191 (by decide) ?_
              cases h
              exact W.iret hx hb hr (fun t ht _ => ⟨rfl, ht⟩) (fun _ hq => by cases hq) dX9_passings_195
          · replace h := if_f c164 h
            refine lv_aload_n hx hb dX9_passings_167 rfl (lv_at hl 0 rfl) ?_
            refine rg_M_kind hx hb hT hown hK hP w_780 dX9_passings_168 ?_
            refine lv_iload_n hx hb dX9_passings_171 rfl (lv_at hl 2 rfl) ?_
            obtain ⟨hi172, h⟩ := gd_e h
            refine ra_m0 hx hb hK hP (ib_in hi172) dX9_passings_172 ?_
            refine lv_iconst (v := 1) hx hb dX9_passings_173 (by decide) ?_
            refine lv_icmp_eq (tgt := 181) hx hb dX9_passings_174 (by decide) (fun c174 => ?_) (fun c174 => ?_)
            · replace h := if_t c174 h
              exact hL181 v5 ls (lv_sub hl [4] rfl) h
            · replace h := if_f c174 h
              refine lv_iconst (v := 1) hx hb dX9_passings_177 (by decide) ?_
              refine lv_goto (tgt := 182) hx hb dX9_passings_178 (by decide) ?_
              refine lv_istore (lv' := [(6, .int (1 : Int32)), (0, .ref (xB X 0)), (2, .int v2), (3, .int v3), (4, .int v4), (5, .int v5)]) hx hb dX9_passings_182 hl (by decide) rfl (fun ls hl => ?_)
              refine lv_iload hx hb dX9_passings_184 (lv_at hl 0 rfl) ?_
              refine lv_if_eq (tgt := 194) hx hb dX9_passings_186 (by decide) (fun c186 => ?_) (fun c186 => ?_)
              · replace h := if_t c186 h
                refine lv_iconst (v := -1) hx hb dX9_passings_194 (by decide) ?_
                cases h
                exact W.iret hx hb hr (fun t ht _ => ⟨rfl, ht⟩) (fun _ hq => by cases hq) dX9_passings_195
              · replace h := if_f c186 h
                refine lv_iload hx hb dX9_passings_189 (lv_at hl 5 rfl) ?_
                refine lv_goto (tgt := 195) hx hb dX9_passings_191 (by decide) ?_
                cases h
                exact W.iret hx hb hr (fun t ht _ => ⟨rfl, ht⟩) (fun _ hq => by cases hq) dX9_passings_195
  have hL29 : ∀ (n29 : Nat) (v2 : Int32) (v3 : Int32) (v4 : Int32) (v5 : Int32) (v6 : Int32) (ls : Array Slot), lv_has ls 7 [(0, .ref (xB X 0)), (2, .int v2), (3, .int v3), (4, .int v4), (5, .int v5), (6, .int v6)] → X9_passings_29 ma n29 v2 v3 v4 v5 v6 = some o0 → W p l e (headSpec (Cond.code yX9_passings cX9_passings 7 (some .int) :: gT) { frames := 1, cells := 0, slots := 0, locals := 23 }).room s m [.ref (xB X 0), .int a1, .int a2].toArray below meth c s.heap [] 0 0 (MQ below (k2_QcV (.int o0)) [.ref (xB X 0), .int a1, .int a2].toArray s 0 0 (fun _ => False)) (F0 m 29 ls []) := by
    intro n29
    induction n29 with
    | zero =>
      intro v2 v3 v4 v5 v6 ls hl h
      rw [X9_passings_29] at h
      cases h
    | succ n29 ih29 =>
      intro v2 v3 v4 v5 v6 ls hl h
      rw [X9_passings_29] at h
      refine lv_iload_n hx hb dX9_passings_29 rfl (lv_at hl 2 rfl) ?_
      refine lv_iload hx hb dX9_passings_30 (lv_at hl 3 rfl) ?_
      refine lv_icmp_eq (tgt := 145) hx hb dX9_passings_32 (by decide) (fun c32 => ?_) (fun c32 => ?_)
      · replace h := if_t c32 h
        exact hL145 v2 v3 v4 v5 v6 ls (lv_sub hl [0, 1, 2, 3, 4, 5] rfl) h
      · replace h := if_f c32 h
        refine lv_iload_n hx hb dX9_passings_35 rfl (lv_at hl 2 rfl) ?_
        refine lv_bipush (v := 9) hx hb dX9_passings_36 (by decide) ?_
        refine lv_icmp_eq (tgt := 145) hx hb dX9_passings_38 (by decide) (fun c38 => ?_) (fun c38 => ?_)
        · replace h := if_t c38 h
          exact hL145 v2 v3 v4 v5 v6 ls (lv_sub hl [0, 1, 2, 3, 4, 5] rfl) h
        · replace h := if_f c38 h
          refine lv_iload hx hb dX9_passings_41 (lv_at hl 3 rfl) ?_
          refine lv_bipush (v := 9) hx hb dX9_passings_43 (by decide) ?_
          refine lv_icmp_eq (tgt := 145) hx hb dX9_passings_45 (by decide) (fun c45 => ?_) (fun c45 => ?_)
          · replace h := if_t c45 h
            exact hL145 v2 v3 v4 v5 v6 ls (lv_sub hl [0, 1, 2, 3, 4, 5] rfl) h
          · replace h := if_f c45 h
            refine lv_aload_n hx hb dX9_passings_48 rfl (lv_at hl 0 rfl) ?_
            refine lv_iload_n hx hb dX9_passings_49 rfl (lv_at hl 2 rfl) ?_
            obtain ⟨r50, hc50, h⟩ := Option.bind_eq_some_iff.mp h
            refine rcV (As := [.int v3]) (rest := []) ⟨hx, hb, hml, hown, hts⟩ (c_X9_depthOf l X mi ml ma mb v3 hc50) ⟨w_998, w_1000, w_21, w_58, w_1001⟩ hd_X9_depthOf rfl rfl ⟨(Nat.le_of_ble_eq_true rfl), (Nat.le_of_ble_eq_true rfl)⟩ ⟨Nat.zero_le _, Nat.zero_le _⟩ mPre_blind (va_recv hK hP (ci := 5) rfl cM_o) (mPre_call hP hK hN) rfl rfl hl.1 (Nat.le_of_ble_eq_true rfl) dX9_passings_50 ?_
            refine lv_aload_n hx hb dX9_passings_53 rfl (lv_at hl 0 rfl) ?_
            refine lv_iload hx hb dX9_passings_54 (lv_at hl 3 rfl) ?_
            obtain ⟨r56, hc56, h⟩ := Option.bind_eq_some_iff.mp h
            refine rcV (As := [.int v4]) (rest := [.int r50]) ⟨hx, hb, hml, hown, hts⟩ (c_X9_depthOf l X mi ml ma mb v4 hc56) ⟨w_998, w_1000, w_21, w_58, w_1001⟩ hd_X9_depthOf rfl rfl ⟨(Nat.le_of_ble_eq_true rfl), (Nat.le_of_ble_eq_true rfl)⟩ ⟨Nat.zero_le _, Nat.zero_le _⟩ mPre_blind (va_recv hK hP (ci := 5) rfl cM_o) (mPre_call hP hK hN) rfl rfl hl.1 (Nat.le_of_ble_eq_true rfl) dX9_passings_56 ?_
            refine lv_icmp_lt (tgt := 94) hx hb dX9_passings_59 (by decide) (fun c59 => ?_) (fun c59 => ?_)
            · replace h := if_t c59 h
              refine lv_aload_n hx hb dX9_passings_94 rfl (lv_at hl 0 rfl) ?_
              refine rg_M_hangs hx hb hT hown hK hP w_782 dX9_passings_95 ?_
              refine lv_iload hx hb dX9_passings_98 (lv_at hl 3 rfl) ?_
              obtain ⟨hi100, h⟩ := gd_e h
              refine ra_m2 hx hb hK hP (ib_in hi100) dX9_passings_100 ?_
              refine lv_istore (lv' := [(4, .int (ma 2 v4.toNatClampNeg)), (0, .ref (xB X 0)), (2, .int v2), (3, .int v3), (5, .int v5), (6, .int v6)]) hx hb dX9_passings_101 hl (by decide) rfl (fun ls hl => ?_)
              refine lv_iload hx hb dX9_passings_103 (lv_at hl 5 rfl) ?_
              refine lv_if_eq (tgt := 136) hx hb dX9_passings_105 (by decide) (fun c105 => ?_) (fun c105 => ?_)
              · replace h := if_t c105 h
                refine lv_iconst (v := 0) hx hb dX9_passings_136 (by decide) ?_
                refine lv_istore (lv' := [(6, .int (0 : Int32)), (4, .int (ma 2 v4.toNatClampNeg)), (0, .ref (xB X 0)), (2, .int v2), (3, .int v3), (5, .int v5)]) hx hb dX9_passings_137 hl (by decide) rfl (fun ls hl => ?_)
                refine lv_iinc (v := (v5 + (1 : Int32))) (lv' := [(5, .int (v5 + (1 : Int32))), (6, .int (0 : Int32)), (4, .int (ma 2 v4.toNatClampNeg)), (0, .ref (xB X 0)), (2, .int v2), (3, .int v3)]) hx hb dX9_passings_139 hl (k := 5) rfl rfl (by decide) rfl (fun ls hl => ?_)
                refine lv_goto (tgt := 29) hx hb dX9_passings_142 (by decide) ?_
                exact ih29 v2 v3 (ma 2 v4.toNatClampNeg) (v5 + (1 : Int32)) (0 : Int32) ls (lv_sub hl [3, 4, 5, 2, 0, 1] rfl) h
              · replace h := if_f c105 h
                refine lv_iload hx hb dX9_passings_108 (lv_at hl 0 rfl) ?_
                refine lv_bipush (v := 9) hx hb dX9_passings_110 (by decide) ?_
                refine lv_icmp_eq (tgt := 132) hx hb dX9_passings_112 (by decide) (fun c112 => ?_) (fun c112 => ?_)
                · replace h := if_t c112 h
                  refine lv_iconst (v := 1) hx hb dX9_passings_132 (by decide) ?_
                  refine lv_goto (tgt := 137) hx hb dX9_passings_133 (by decide) ?_
                  refine lv_istore (lv' := [(6, .int (1 : Int32)), (4, .int (ma 2 v4.toNatClampNeg)), (0, .ref (xB X 0)), (2, .int v2), (3, .int v3), (5, .int v5)]) hx hb dX9_passings_137 hl (by decide) rfl (fun ls hl => ?_)
                  refine lv_iinc (v := (v5 + (1 : Int32))) (lv' := [(5, .int (v5 + (1 : Int32))), (6, .int (1 : Int32)), (4, .int (ma 2 v4.toNatClampNeg)), (0, .ref (xB X 0)), (2, .int v2), (3, .int v3)]) hx hb dX9_passings_139 hl (k := 5) rfl rfl (by decide) rfl (fun ls hl => ?_)
                  refine lv_goto (tgt := 29) hx hb dX9_passings_142 (by decide) ?_
                  exact ih29 v2 v3 (ma 2 v4.toNatClampNeg) (v5 + (1 : Int32)) (1 : Int32) ls (lv_sub hl [3, 4, 5, 2, 0, 1] rfl) h
                · replace h := if_f c112 h
                  refine lv_iload hx hb dX9_passings_115 (lv_at hl 0 rfl) ?_
                  refine lv_iload_n hx hb dX9_passings_117 rfl (lv_at hl 3 rfl) ?_
                  refine lv_icmp_eq (tgt := 132) hx hb dX9_passings_118 (by decide) (fun c118 => ?_) (fun c118 => ?_)
                  · replace h := if_t c118 h
                    refine lv_iconst (v := 1) hx hb dX9_passings_132 (by decide) ?_
                    refine lv_goto (tgt := 137) hx hb dX9_passings_133 (by decide) ?_
                    refine lv_istore (lv' := [(6, .int (1 : Int32)), (4, .int (ma 2 v4.toNatClampNeg)), (0, .ref (xB X 0)), (2, .int v2), (3, .int v3), (5, .int v5)]) hx hb dX9_passings_137 hl (by decide) rfl (fun ls hl => ?_)
                    refine lv_iinc (v := (v5 + (1 : Int32))) (lv' := [(5, .int (v5 + (1 : Int32))), (6, .int (1 : Int32)), (4, .int (ma 2 v4.toNatClampNeg)), (0, .ref (xB X 0)), (2, .int v2), (3, .int v3)]) hx hb dX9_passings_139 hl (k := 5) rfl rfl (by decide) rfl (fun ls hl => ?_)
                    refine lv_goto (tgt := 29) hx hb dX9_passings_142 (by decide) ?_
                    exact ih29 v2 v3 (ma 2 v4.toNatClampNeg) (v5 + (1 : Int32)) (1 : Int32) ls (lv_sub hl [3, 4, 5, 2, 0, 1] rfl) h
                  · replace h := if_f c118 h
                    refine lv_aload_n hx hb dX9_passings_121 rfl (lv_at hl 1 rfl) ?_
                    refine rg_M_kind hx hb hT hown hK hP w_780 dX9_passings_122 ?_
                    refine lv_iload hx hb dX9_passings_125 (lv_at hl 0 rfl) ?_
                    obtain ⟨hi127, h⟩ := gd_e h
                    refine ra_m0 hx hb hK hP (ib_in hi127) dX9_passings_127 ?_
                    refine lv_iconst (v := 1) hx hb dX9_passings_128 (by decide) ?_
                    refine lv_icmp_eq (tgt := 136) hx hb dX9_passings_129 (by decide) (fun c129 => ?_) (fun c129 => ?_)
                    · replace h := if_t c129 h
                      refine lv_iconst (v := 0) hx hb dX9_passings_136 (by decide) ?_
                      refine lv_istore (lv' := [(6, .int (0 : Int32)), (4, .int (ma 2 v4.toNatClampNeg)), (0, .ref (xB X 0)), (2, .int v2), (3, .int v3), (5, .int v5)]) hx hb dX9_passings_137 hl (by decide) rfl (fun ls hl => ?_)
                      refine lv_iinc (v := (v5 + (1 : Int32))) (lv' := [(5, .int (v5 + (1 : Int32))), (6, .int (0 : Int32)), (4, .int (ma 2 v4.toNatClampNeg)), (0, .ref (xB X 0)), (2, .int v2), (3, .int v3)]) hx hb dX9_passings_139 hl (k := 5) rfl rfl (by decide) rfl (fun ls hl => ?_)
                      refine lv_goto (tgt := 29) hx hb dX9_passings_142 (by decide) ?_
                      exact ih29 v2 v3 (ma 2 v4.toNatClampNeg) (v5 + (1 : Int32)) (0 : Int32) ls (lv_sub hl [3, 4, 5, 2, 0, 1] rfl) h
                    · replace h := if_f c129 h
                      refine lv_iconst (v := 1) hx hb dX9_passings_132 (by decide) ?_
                      refine lv_goto (tgt := 137) hx hb dX9_passings_133 (by decide) ?_
                      refine lv_istore (lv' := [(6, .int (1 : Int32)), (4, .int (ma 2 v4.toNatClampNeg)), (0, .ref (xB X 0)), (2, .int v2), (3, .int v3), (5, .int v5)]) hx hb dX9_passings_137 hl (by decide) rfl (fun ls hl => ?_)
                      refine lv_iinc (v := (v5 + (1 : Int32))) (lv' := [(5, .int (v5 + (1 : Int32))), (6, .int (1 : Int32)), (4, .int (ma 2 v4.toNatClampNeg)), (0, .ref (xB X 0)), (2, .int v2), (3, .int v3)]) hx hb dX9_passings_139 hl (k := 5) rfl rfl (by decide) rfl (fun ls hl => ?_)
                      refine lv_goto (tgt := 29) hx hb dX9_passings_142 (by decide) ?_
                      exact ih29 v2 v3 (ma 2 v4.toNatClampNeg) (v5 + (1 : Int32)) (1 : Int32) ls (lv_sub hl [3, 4, 5, 2, 0, 1] rfl) h
            · replace h := if_f c59 h
              refine lv_iload hx hb dX9_passings_62 (lv_at hl 5 rfl) ?_
              refine lv_if_eq (tgt := 81) hx hb dX9_passings_64 (by decide) (fun c64 => ?_) (fun c64 => ?_)
              · replace h := if_t c64 h
                refine lv_iconst (v := 0) hx hb dX9_passings_81 (by decide) ?_
                refine lv_istore (lv' := [(6, .int (0 : Int32)), (0, .ref (xB X 0)), (2, .int v2), (3, .int v3), (4, .int v4), (5, .int v5)]) hx hb dX9_passings_82 hl (by decide) rfl (fun ls hl => ?_)
                refine lv_aload_n hx hb dX9_passings_84 rfl (lv_at hl 1 rfl) ?_
                refine rg_M_hangs hx hb hT hown hK hP w_782 dX9_passings_85 ?_
                refine lv_iload_n hx hb dX9_passings_88 rfl (lv_at hl 3 rfl) ?_
                obtain ⟨hi89, h⟩ := gd_e h
                refine ra_m2 hx hb hK hP (ib_in hi89) dX9_passings_89 ?_
                refine lv_istore_n (lv' := [(3, .int (ma 2 v3.toNatClampNeg)), (6, .int (0 : Int32)), (0, .ref (xB X 0)), (2, .int v2), (4, .int v4), (5, .int v5)]) hx hb dX9_passings_90 rfl hl (by decide) rfl (fun ls hl => ?_)
                refine lv_goto (tgt := 139) hx hb dX9_passings_91 (by decide) ?_
                refine lv_iinc (v := (v5 + (1 : Int32))) (lv' := [(5, .int (v5 + (1 : Int32))), (3, .int (ma 2 v3.toNatClampNeg)), (6, .int (0 : Int32)), (0, .ref (xB X 0)), (2, .int v2), (4, .int v4)]) hx hb dX9_passings_139 hl (k := 5) rfl rfl (by decide) rfl (fun ls hl => ?_)
                refine lv_goto (tgt := 29) hx hb dX9_passings_142 (by decide) ?_
                exact ih29 v2 (ma 2 v3.toNatClampNeg) v4 (v5 + (1 : Int32)) (0 : Int32) ls (lv_sub hl [3, 4, 1, 5, 0, 2] rfl) h
              · replace h := if_f c64 h
                refine lv_aload_n hx hb dX9_passings_67 rfl (lv_at hl 0 rfl) ?_
                refine rg_M_kind hx hb hT hown hK hP w_780 dX9_passings_68 ?_
                refine lv_iload_n hx hb dX9_passings_71 rfl (lv_at hl 2 rfl) ?_
                obtain ⟨hi72, h⟩ := gd_e h
                refine ra_m0 hx hb hK hP (ib_in hi72) dX9_passings_72 ?_
                refine lv_iconst (v := 1) hx hb dX9_passings_73 (by decide) ?_
                refine lv_icmp_eq (tgt := 81) hx hb dX9_passings_74 (by decide) (fun c74 => ?_) (fun c74 => ?_)
                · replace h := if_t c74 h
                  refine lv_iconst (v := 0) hx hb dX9_passings_81 (by decide) ?_
                  refine lv_istore (lv' := [(6, .int (0 : Int32)), (0, .ref (xB X 0)), (2, .int v2), (3, .int v3), (4, .int v4), (5, .int v5)]) hx hb dX9_passings_82 hl (by decide) rfl (fun ls hl => ?_)
                  refine lv_aload_n hx hb dX9_passings_84 rfl (lv_at hl 1 rfl) ?_
                  refine rg_M_hangs hx hb hT hown hK hP w_782 dX9_passings_85 ?_
                  refine lv_iload_n hx hb dX9_passings_88 rfl (lv_at hl 3 rfl) ?_
                  obtain ⟨hi89, h⟩ := gd_e h
                  refine ra_m2 hx hb hK hP (ib_in hi89) dX9_passings_89 ?_
                  refine lv_istore_n (lv' := [(3, .int (ma 2 v3.toNatClampNeg)), (6, .int (0 : Int32)), (0, .ref (xB X 0)), (2, .int v2), (4, .int v4), (5, .int v5)]) hx hb dX9_passings_90 rfl hl (by decide) rfl (fun ls hl => ?_)
                  refine lv_goto (tgt := 139) hx hb dX9_passings_91 (by decide) ?_
                  refine lv_iinc (v := (v5 + (1 : Int32))) (lv' := [(5, .int (v5 + (1 : Int32))), (3, .int (ma 2 v3.toNatClampNeg)), (6, .int (0 : Int32)), (0, .ref (xB X 0)), (2, .int v2), (4, .int v4)]) hx hb dX9_passings_139 hl (k := 5) rfl rfl (by decide) rfl (fun ls hl => ?_)
                  refine lv_goto (tgt := 29) hx hb dX9_passings_142 (by decide) ?_
                  exact ih29 v2 (ma 2 v3.toNatClampNeg) v4 (v5 + (1 : Int32)) (0 : Int32) ls (lv_sub hl [3, 4, 1, 5, 0, 2] rfl) h
                · replace h := if_f c74 h
                  refine lv_iconst (v := 1) hx hb dX9_passings_77 (by decide) ?_
                  refine lv_goto (tgt := 82) hx hb dX9_passings_78 (by decide) ?_
                  refine lv_istore (lv' := [(6, .int (1 : Int32)), (0, .ref (xB X 0)), (2, .int v2), (3, .int v3), (4, .int v4), (5, .int v5)]) hx hb dX9_passings_82 hl (by decide) rfl (fun ls hl => ?_)
                  refine lv_aload_n hx hb dX9_passings_84 rfl (lv_at hl 1 rfl) ?_
                  refine rg_M_hangs hx hb hT hown hK hP w_782 dX9_passings_85 ?_
                  refine lv_iload_n hx hb dX9_passings_88 rfl (lv_at hl 3 rfl) ?_
                  obtain ⟨hi89, h⟩ := gd_e h
                  refine ra_m2 hx hb hK hP (ib_in hi89) dX9_passings_89 ?_
                  refine lv_istore_n (lv' := [(3, .int (ma 2 v3.toNatClampNeg)), (6, .int (1 : Int32)), (0, .ref (xB X 0)), (2, .int v2), (4, .int v4), (5, .int v5)]) hx hb dX9_passings_90 rfl hl (by decide) rfl (fun ls hl => ?_)
                  refine lv_goto (tgt := 139) hx hb dX9_passings_91 (by decide) ?_
                  refine lv_iinc (v := (v5 + (1 : Int32))) (lv' := [(5, .int (v5 + (1 : Int32))), (3, .int (ma 2 v3.toNatClampNeg)), (6, .int (1 : Int32)), (0, .ref (xB X 0)), (2, .int v2), (4, .int v4)]) hx hb dX9_passings_139 hl (k := 5) rfl rfl (by decide) rfl (fun ls hl => ?_)
                  refine lv_goto (tgt := 29) hx hb dX9_passings_142 (by decide) ?_
                  exact ih29 v2 (ma 2 v3.toNatClampNeg) v4 (v5 + (1 : Int32)) (1 : Int32) ls (lv_sub hl [3, 4, 1, 5, 0, 2] rfl) h
  rw [X9_passings] at h
  refine lv_aload_n hx hb dX9_passings_0 rfl (lv_at hl 0 rfl) ?_
  refine lv_iload_n hx hb dX9_passings_1 rfl (lv_at hl 1 rfl) ?_
  obtain ⟨r2, hc2, h⟩ := Option.bind_eq_some_iff.mp h
  refine rcV (As := [.int a1]) (rest := []) ⟨hx, hb, hml, hown, hts⟩ (c_X9_isStuck l X mi ml ma mb a1 hc2) ⟨w_1026, w_1028, w_27, w_58, w_1029⟩ hd_X9_isStuck rfl rfl ⟨(Nat.le_of_ble_eq_true rfl), (Nat.le_of_ble_eq_true rfl)⟩ ⟨Nat.zero_le _, Nat.zero_le _⟩ mPre_blind (va_recv hK hP (ci := 5) rfl cM_o) (mPre_call hP hK hN) rfl rfl hl.1 (Nat.le_of_ble_eq_true rfl) dX9_passings_2 ?_
  refine lv_if_eq (tgt := 16) hx hb dX9_passings_5 (by decide) (fun c5 => ?_) (fun c5 => ?_)
  · replace h := if_t c5 h
    refine lv_iconst (v := -1) hx hb dX9_passings_16 (by decide) ?_
    cases h
    exact W.iret hx hb hr (fun t ht _ => ⟨rfl, ht⟩) (fun _ hq => by cases hq) dX9_passings_17
  · replace h := if_f c5 h
    refine lv_aload_n hx hb dX9_passings_8 rfl (lv_at hl 0 rfl) ?_
    refine lv_iload_n hx hb dX9_passings_9 rfl (lv_at hl 2 rfl) ?_
    obtain ⟨r10, hc10, h⟩ := Option.bind_eq_some_iff.mp h
    refine rcV (As := [.int a2]) (rest := []) ⟨hx, hb, hml, hown, hts⟩ (c_X9_isStuck l X mi ml ma mb a2 hc10) ⟨w_1026, w_1028, w_27, w_58, w_1029⟩ hd_X9_isStuck rfl rfl ⟨(Nat.le_of_ble_eq_true rfl), (Nat.le_of_ble_eq_true rfl)⟩ ⟨Nat.zero_le _, Nat.zero_le _⟩ mPre_blind (va_recv hK hP (ci := 5) rfl cM_o) (mPre_call hP hK hN) rfl rfl hl.1 (Nat.le_of_ble_eq_true rfl) dX9_passings_10 ?_
    refine lv_if_ne (tgt := 18) hx hb dX9_passings_13 (by decide) (fun c13 => ?_) (fun c13 => ?_)
    · replace h := if_f c13 h
      refine lv_iload_n hx hb dX9_passings_18 rfl (lv_at hl 1 rfl) ?_
      refine lv_istore_n (lv' := [(3, .int a1), (0, .ref (xB X 0)), (1, .int a1), (2, .int a2)]) hx hb dX9_passings_19 rfl hl (by decide) rfl (fun ls hl => ?_)
      refine lv_iload_n hx hb dX9_passings_20 rfl (lv_at hl 3 rfl) ?_
      refine lv_istore (lv' := [(4, .int a2), (3, .int a1), (0, .ref (xB X 0)), (1, .int a1), (2, .int a2)]) hx hb dX9_passings_21 hl (by decide) rfl (fun ls hl => ?_)
      refine lv_iconst (v := 0) hx hb dX9_passings_23 (by decide) ?_
      refine lv_istore (lv' := [(5, .int (0 : Int32)), (4, .int a2), (3, .int a1), (0, .ref (xB X 0)), (1, .int a1), (2, .int a2)]) hx hb dX9_passings_24 hl (by decide) rfl (fun ls hl => ?_)
      refine lv_iconst (v := 1) hx hb dX9_passings_26 (by decide) ?_
      refine lv_istore (lv' := [(6, .int (1 : Int32)), (5, .int (0 : Int32)), (4, .int a2), (3, .int a1), (0, .ref (xB X 0)), (1, .int a1), (2, .int a2)]) hx hb dX9_passings_27 hl (by decide) rfl (fun ls hl => ?_)
      exact hL29 500 a2 a1 a2 (0 : Int32) (1 : Int32) ls (lv_sub hl [4, 6, 3, 2, 1, 0] rfl) h
    · replace h := if_t c13 h
      refine lv_iconst (v := -1) hx hb dX9_passings_16 (by decide) ?_
      cases h
      exact W.iret hx hb hr (fun t ht _ => ⟨rfl, ht⟩) (fun _ hq => by cases hq) dX9_passings_17
set_option maxRecDepth 100000 in
set_option maxHeartbeats 4000000 in
theorem c_X9_fedBy (l : Launch) (X : gX) (mi : Nat → Int32) (ml : Nat → Int64) (ma : Nat → Nat → Int32) (mb : Nat → Nat → Int64) (a1 : Int32) {o0 : Int32} (h : X9_fedBy mi ma a1 = some o0) : Met l yX9_fedBy (Cond.code yX9_fedBy cX9_fedBy 4 (some .int) :: gT) { frames := 2, cells := 0, slots := 0, locals := 49 } (va_Pc [.ref (xB X 0), .int a1] (mPre X mi ml ma mb)) (k2_QcV (.int o0)) 0 0 (fun _ => False) := by
  refine Met.ofW (cc := cX9_fedBy) (maxL := 4) (ret := (some .int)) (by decide) rfl ?_
  intro p e s m args below meth c s₁ B hml hv
  obtain ⟨rfl, hP, hK, hN⟩ := hv
  have hx := B.exec
  have hb := B.bytes
  have hr := B.returns
  have hts := atoms_spec (ws := (Cond.code yX9_fedBy cX9_fedBy 4 (some .int) :: gT)) B.pre
  have hT : ∀ w ∈ gT, w.before _ s = true := fun w hw => hts w (List.mem_cons_of_mem _ hw)
  have hown : s.vm.findClass RX9 = some m.cls := findClass_of_methodNamed B.named
  have hlocks := B.notSynchronized
  have hS : va_S (mA X) s.heap s.heap [] := va_S.rf
  have hl := lv_entry ([.ref (xB X 0), .int a1]) (n := 4) (Nat.le_of_ble_eq_true rfl)
  rw [lg_entry_eq]
  generalize (lg_sl ([.ref (xB X 0), .int a1]) ++ List.replicate (4 - (lg_sl ([.ref (xB X 0), .int a1])).length) Slot.unset).toArray = ls at hl ⊢
  have hl : lv_has ls 4 [(0, .ref (xB X 0)), (1, .int a1)] := hl
  have hL4 : ∀ (n4 : Nat) (v1 : Int32) (v2 : Int32) (v3 : Int32) (ls : Array Slot), lv_has ls 4 [(0, .ref (xB X 0)), (1, .int v1), (2, .int v2), (3, .int v3)] → X9_fedBy_4 mi ma n4 v1 v2 v3 = some o0 → W p l e (headSpec (Cond.code yX9_fedBy cX9_fedBy 4 (some .int) :: gT) { frames := 2, cells := 0, slots := 0, locals := 49 }).room s m [.ref (xB X 0), .int a1].toArray below meth c s.heap [] 0 0 (MQ below (k2_QcV (.int o0)) [.ref (xB X 0), .int a1].toArray s 0 0 (fun _ => False)) (F0 m 4 ls []) := by
    intro n4
    induction n4 with
    | zero =>
      intro v1 v2 v3 ls hl h
      rw [X9_fedBy_4] at h
      cases h
    | succ n4 ih4 =>
      intro v1 v2 v3 ls hl h
      rw [X9_fedBy_4] at h
      refine lv_iload_n hx hb dX9_fedBy_4 rfl (lv_at hl 3 rfl) ?_
      refine lv_aload_n hx hb dX9_fedBy_5 rfl (lv_at hl 0 rfl) ?_
      refine rg_M_people hx hb hT hown hK hP w_779 dX9_fedBy_6 ?_
      refine lv_icmp_ge (tgt := 42) hx hb dX9_fedBy_9 (by decide) (fun c9 => ?_) (fun c9 => ?_)
      · replace h := if_t c9 h
        refine lv_iload_n hx hb dX9_fedBy_42 rfl (lv_at hl 2 rfl) ?_
        cases h
        exact W.iret hx hb hr (fun t ht _ => ⟨rfl, ht⟩) (fun _ hq => by cases hq) dX9_fedBy_43
      · replace h := if_f c9 h
        refine lv_iload_n hx hb dX9_fedBy_12 rfl (lv_at hl 2 rfl) ?_
        refine lv_iload_n hx hb dX9_fedBy_13 rfl (lv_at hl 3 rfl) ?_
        refine lv_iload_n hx hb dX9_fedBy_14 rfl (lv_at hl 1 rfl) ?_
        refine lv_icmp_eq (tgt := 33) hx hb dX9_fedBy_15 (by decide) (fun c15 => ?_) (fun c15 => ?_)
        · replace h := if_t c15 h
          refine lv_iconst (v := 0) hx hb dX9_fedBy_33 (by decide) ?_
          refine lv_ior hx hb dX9_fedBy_34 ?_
          refine lv_istore_n (lv' := [(2, .int (v2 ||| (0 : Int32))), (0, .ref (xB X 0)), (1, .int v1), (3, .int v3)]) hx hb dX9_fedBy_35 rfl hl (by decide) rfl (fun ls hl => ?_)
          refine lv_iinc (v := (v3 + (1 : Int32))) (lv' := [(3, .int (v3 + (1 : Int32))), (2, .int (v2 ||| (0 : Int32))), (0, .ref (xB X 0)), (1, .int v1)]) hx hb dX9_fedBy_36 hl (k := 3) rfl rfl (by decide) rfl (fun ls hl => ?_)
          refine lv_goto (tgt := 4) hx hb dX9_fedBy_39 (by decide) ?_
          exact ih4 v1 (v2 ||| (0 : Int32)) (v3 + (1 : Int32)) ls (lv_sub hl [2, 3, 1, 0] rfl) h
        · replace h := if_f c15 h
          refine lv_aload_n hx hb dX9_fedBy_18 rfl (lv_at hl 0 rfl) ?_
          refine lv_iload_n hx hb dX9_fedBy_19 rfl (lv_at hl 1 rfl) ?_
          refine lv_iload_n hx hb dX9_fedBy_20 rfl (lv_at hl 3 rfl) ?_
          obtain ⟨r21, hc21, h⟩ := Option.bind_eq_some_iff.mp h
          refine rcV (As := [.int v1, .int v3]) (rest := [.int v2]) ⟨hx, hb, hml, hown, hts⟩ (c_X9_passings l X mi ml ma mb v1 v3 hc21) ⟨w_1042, w_1044, w_30, w_58, w_1045⟩ hd_X9_passings rfl rfl ⟨(Nat.le_of_ble_eq_true rfl), (Nat.le_of_ble_eq_true rfl)⟩ ⟨Nat.zero_le _, Nat.zero_le _⟩ mPre_blind (va_recv hK hP (ci := 5) rfl cM_o) (mPre_call hP hK hN) rfl rfl hl.1 (Nat.le_of_ble_eq_true rfl) dX9_fedBy_21 ?_
          refine lv_if_le (tgt := 33) hx hb dX9_fedBy_24 (by decide) (fun c24 => ?_) (fun c24 => ?_)
          · replace h := if_t c24 h
            refine lv_iconst (v := 0) hx hb dX9_fedBy_33 (by decide) ?_
            refine lv_ior hx hb dX9_fedBy_34 ?_
            refine lv_istore_n (lv' := [(2, .int (v2 ||| (0 : Int32))), (0, .ref (xB X 0)), (1, .int v1), (3, .int v3)]) hx hb dX9_fedBy_35 rfl hl (by decide) rfl (fun ls hl => ?_)
            refine lv_iinc (v := (v3 + (1 : Int32))) (lv' := [(3, .int (v3 + (1 : Int32))), (2, .int (v2 ||| (0 : Int32))), (0, .ref (xB X 0)), (1, .int v1)]) hx hb dX9_fedBy_36 hl (k := 3) rfl rfl (by decide) rfl (fun ls hl => ?_)
            refine lv_goto (tgt := 4) hx hb dX9_fedBy_39 (by decide) ?_
            exact ih4 v1 (v2 ||| (0 : Int32)) (v3 + (1 : Int32)) ls (lv_sub hl [2, 3, 1, 0] rfl) h
          · replace h := if_f c24 h
            refine lv_iconst (v := 1) hx hb dX9_fedBy_27 (by decide) ?_
            refine lv_iload_n hx hb dX9_fedBy_28 rfl (lv_at hl 3 rfl) ?_
            refine lv_ishl hx hb dX9_fedBy_29 ?_
            refine lv_goto (tgt := 34) hx hb dX9_fedBy_30 (by decide) ?_
            refine lv_ior hx hb dX9_fedBy_34 ?_
            refine lv_istore_n (lv' := [(2, .int (v2 ||| ((1 : Int32) <<< (v3 &&& 31)))), (0, .ref (xB X 0)), (1, .int v1), (3, .int v3)]) hx hb dX9_fedBy_35 rfl hl (by decide) rfl (fun ls hl => ?_)
            refine lv_iinc (v := (v3 + (1 : Int32))) (lv' := [(3, .int (v3 + (1 : Int32))), (2, .int (v2 ||| ((1 : Int32) <<< (v3 &&& 31)))), (0, .ref (xB X 0)), (1, .int v1)]) hx hb dX9_fedBy_36 hl (k := 3) rfl rfl (by decide) rfl (fun ls hl => ?_)
            refine lv_goto (tgt := 4) hx hb dX9_fedBy_39 (by decide) ?_
            exact ih4 v1 (v2 ||| ((1 : Int32) <<< (v3 &&& 31))) (v3 + (1 : Int32)) ls (lv_sub hl [2, 3, 1, 0] rfl) h
  rw [X9_fedBy] at h
  refine lv_iconst (v := 0) hx hb dX9_fedBy_0 (by decide) ?_
  refine lv_istore_n (lv' := [(2, .int (0 : Int32)), (0, .ref (xB X 0)), (1, .int a1)]) hx hb dX9_fedBy_1 rfl hl (by decide) rfl (fun ls hl => ?_)
  refine lv_iconst (v := 0) hx hb dX9_fedBy_2 (by decide) ?_
  refine lv_istore_n (lv' := [(3, .int (0 : Int32)), (2, .int (0 : Int32)), (0, .ref (xB X 0)), (1, .int a1)]) hx hb dX9_fedBy_3 rfl hl (by decide) rfl (fun ls hl => ?_)
  exact hL4 500 a1 (0 : Int32) (0 : Int32) ls (lv_sub hl [2, 3, 1, 0] rfl) h
set_option maxRecDepth 100000 in
set_option maxHeartbeats 4000000 in
theorem c_X9_mark (l : Launch) (X : gX) (mi : Nat → Int32) (ml : Nat → Int64) (ma : Nat → Nat → Int32) (mb : Nat → Nat → Int64) (a1 : Int32) (a2 : Int32) {o0 : Int32} {o_mi : Nat → Int32} {o_ma : Nat → Nat → Int32} (h : X9_mark a1 a2 mi ma = some (o0, o_mi, o_ma)) : Met l yX9_mark (Cond.code yX9_mark cX9_mark 3 (some .int) :: gT) { frames := 4, cells := 0, slots := 0, locals := 89 } (va_Pc [.ref (xB X 0), .int a1, .int a2] (mPre X mi ml ma mb)) (wQ (some (.int o0)) (fun H => va_P X.1 vwCl (cM X o_mi ml o_ma mb) H) (mA X)) 0 0 (mA X) := by
  refine Met.ofW (cc := cX9_mark) (maxL := 3) (ret := (some .int)) (by decide) rfl ?_
  intro p e s m args below meth c s₁ B hml hv
  obtain ⟨rfl, hP, hK, hN⟩ := hv
  have hx := B.exec
  have hb := B.bytes
  have hr := B.returns
  have hts := atoms_spec (ws := (Cond.code yX9_mark cX9_mark 3 (some .int) :: gT)) B.pre
  have hT : ∀ w ∈ gT, w.before _ s = true := fun w hw => hts w (List.mem_cons_of_mem _ hw)
  have hown : s.vm.findClass RX9 = some m.cls := findClass_of_methodNamed B.named
  have hlocks := B.notSynchronized
  have hS : va_S (mA X) s.heap s.heap [] := va_S.rf
  have hl := lv_entry ([.ref (xB X 0), .int a1, .int a2]) (n := 3) (Nat.le_of_ble_eq_true rfl)
  rw [lg_entry_eq]
  generalize (lg_sl ([.ref (xB X 0), .int a1, .int a2]) ++ List.replicate (3 - (lg_sl ([.ref (xB X 0), .int a1, .int a2])).length) Slot.unset).toArray = ls at hl ⊢
  have hl : lv_has ls 3 [(0, .ref (xB X 0)), (1, .int a1), (2, .int a2)] := hl
  rw [X9_mark] at h
  refine lv_aload_n hx hb dX9_mark_0 rfl (lv_at hl 0 rfl) ?_
  refine lv_iload_n hx hb dX9_mark_1 rfl (lv_at hl 1 rfl) ?_
  obtain ⟨r2, hc2, h⟩ := Option.bind_eq_some_iff.mp h
  refine rcV (As := [.int a1]) (rest := []) ⟨hx, hb, hml, hown, hts⟩ (c_X9_isOne l X mi ml ma mb a1 hc2) ⟨w_986, w_988, w_18, w_58, w_989⟩ hd_X9_isOne rfl rfl ⟨(Nat.le_of_ble_eq_true rfl), (Nat.le_of_ble_eq_true rfl)⟩ ⟨Nat.zero_le _, Nat.zero_le _⟩ mPre_blind (va_recv hK hP (ci := 5) rfl cM_o) (mPre_call hP hK hN) rfl rfl hl.1 (Nat.le_of_ble_eq_true rfl) dX9_mark_2 ?_
  refine lv_if_eq (tgt := 20) hx hb dX9_mark_5 (by decide) (fun c5 => ?_) (fun c5 => ?_)
  · replace h := if_t c5 h
    refine lv_iconst (v := -1) hx hb dX9_mark_20 (by decide) ?_
    cases h
    exact W.iret hx hb hr (fun t ht _ => ⟨rfl, by rw [ht]; exact hP, hS.F ht⟩) hS.2.2 dX9_mark_21
  · replace h := if_f c5 h
    refine lv_iload_n hx hb dX9_mark_8 rfl (lv_at hl 2 rfl) ?_
    refine lv_i2l hx hb dX9_mark_9 rfl ?_
    refine lv_lconst (v := 1) hx hb dX9_mark_10 (by decide) ?_
    refine lv_ldc2 (v := 5) hx hb hown (hT _ w_911) dX9_mark_11 ?_
    obtain ⟨r14, hc14, h⟩ := Option.bind_eq_some_iff.mp h
    refine rcS (As := [.long a2.toInt64, .long (1 : Int64), .long (5 : Int64)]) (rest := []) ⟨hx, hb, hml, hown, hts⟩ (c_X9_in l a2.toInt64 (1 : Int64) (5 : Int64) hc14) ⟨w_912, w_913, w_58, w_914⟩ hd_X9_in rfl rfl ⟨(Nat.le_of_ble_eq_true rfl), (Nat.le_of_ble_eq_true rfl)⟩ ⟨Nat.zero_le _, Nat.zero_le _⟩ (fun _ _ _ _ h => h) (fun _ _ _ => trivial) rfl rfl hl.1 (Nat.le_of_ble_eq_true rfl) dX9_mark_14 ?_
    refine lv_if_ne (tgt := 22) hx hb dX9_mark_17 (by decide) (fun c17 => ?_) (fun c17 => ?_)
    · replace h := if_f c17 h
      refine lv_aload_n hx hb dX9_mark_22 rfl (lv_at hl 0 rfl) ?_
      refine lv_iload_n hx hb dX9_mark_23 rfl (lv_at hl 1 rfl) ?_
      refine lv_iload_n hx hb dX9_mark_24 rfl (lv_at hl 2 rfl) ?_
      obtain ⟨r25, hc25, h⟩ := Option.bind_eq_some_iff.mp h
      refine rcV (As := [.int a1, .int a2]) (rest := []) ⟨hx, hb, hml, hown, hts⟩ (c_X9_isOf l X mi ml ma mb a1 a2 hc25) ⟨w_1006, w_1008, w_22, w_58, w_1009⟩ hd_X9_isOf rfl rfl ⟨(Nat.le_of_ble_eq_true rfl), (Nat.le_of_ble_eq_true rfl)⟩ ⟨Nat.zero_le _, Nat.zero_le _⟩ mPre_blind (va_recv hK hP (ci := 5) rfl cM_o) (mPre_call hP hK hN) rfl rfl hl.1 (Nat.le_of_ble_eq_true rfl) dX9_mark_25 ?_
      refine lv_if_ne (tgt := 37) hx hb dX9_mark_28 (by decide) (fun c28 => ?_) (fun c28 => ?_)
      · replace h := if_f c28 h
        refine lv_iload_n hx hb dX9_mark_37 rfl (lv_at hl 2 rfl) ?_
        by_cases q38_0 : a2 = (1 : Int32)
        · replace h := if_t q38_0 h
          refine lv_tableIn (tgt := 68) (off := 30) hx hb dX9_mark_38 (by rw [q38_0]; decide) (by rw [q38_0]; decide) (by rw [q38_0]; rfl) (by decide) ?_
          refine lv_aload_n hx hb dX9_mark_68 rfl (lv_at hl 0 rfl) ?_
          refine rg_M_hand hx hb hT hown hK hP w_783 dX9_mark_69 ?_
          refine lv_iload_n hx hb dX9_mark_72 rfl (lv_at hl 1 rfl) ?_
          obtain ⟨hi73, h⟩ := gd_e h
          refine ra_m3 hx hb hK hP (ib_in hi73) dX9_mark_73 ?_
          refine lv_iconst (v := 1) hx hb dX9_mark_74 (by decide) ?_
          refine lv_icmp_ne (tgt := 82) hx hb dX9_mark_75 (by decide) (fun c75 => ?_) (fun c75 => ?_)
          · replace h := if_f c75 h
            refine lv_iconst (v := 0) hx hb dX9_mark_82 (by decide) ?_
            cases h
            exact W.iret hx hb hr (fun t ht _ => ⟨rfl, by rw [ht]; exact hP, hS.F ht⟩) hS.2.2 dX9_mark_83
          · replace h := if_t c75 h
            refine lv_iconst (v := 1) hx hb dX9_mark_78 (by decide) ?_
            refine lv_goto (tgt := 83) hx hb dX9_mark_79 (by decide) ?_
            cases h
            exact W.iret hx hb hr (fun t ht _ => ⟨rfl, by rw [ht]; exact hP, hS.F ht⟩) hS.2.2 dX9_mark_83
        replace h := if_f q38_0 h
        by_cases q38_1 : a2 = (2 : Int32)
        · replace h := if_t q38_1 h
          refine lv_tableIn (tgt := 84) (off := 46) hx hb dX9_mark_38 (by rw [q38_1]; decide) (by rw [q38_1]; decide) (by rw [q38_1]; rfl) (by decide) ?_
          refine lv_aload_n hx hb dX9_mark_84 rfl (lv_at hl 0 rfl) ?_
          refine lv_iload_n hx hb dX9_mark_85 rfl (lv_at hl 1 rfl) ?_
          obtain ⟨r86, hc86, h⟩ := Option.bind_eq_some_iff.mp h
          refine rcV (As := [.int a1]) (rest := []) ⟨hx, hb, hml, hown, hts⟩ (c_X9_shortOf l X mi ml ma mb a1 hc86) ⟨w_1010, w_1012, w_23, w_58, w_1013⟩ hd_X9_shortOf rfl rfl ⟨(Nat.le_of_ble_eq_true rfl), (Nat.le_of_ble_eq_true rfl)⟩ ⟨Nat.zero_le _, Nat.zero_le _⟩ mPre_blind (va_recv hK hP (ci := 5) rfl cM_o) (mPre_call hP hK hN) rfl rfl hl.1 (Nat.le_of_ble_eq_true rfl) dX9_mark_86 ?_
          cases h
          exact W.iret hx hb hr (fun t ht _ => ⟨rfl, by rw [ht]; exact hP, hS.F ht⟩) hS.2.2 dX9_mark_89
        replace h := if_f q38_1 h
        by_cases q38_2 : a2 = (3 : Int32)
        · replace h := if_t q38_2 h
          refine lv_tableIn (tgt := 90) (off := 52) hx hb dX9_mark_38 (by rw [q38_2]; decide) (by rw [q38_2]; decide) (by rw [q38_2]; rfl) (by decide) ?_
          refine lv_aload_n hx hb dX9_mark_90 rfl (lv_at hl 0 rfl) ?_
          obtain ⟨r91, hc91, h⟩ := Option.bind_eq_some_iff.mp h
          refine rcV (As := []) (rest := []) ⟨hx, hb, hml, hown, hts⟩ (c_X9_hangOnChildren l X mi ml ma mb hc91) ⟨w_1033, w_1035, w_28, w_58, w_1036⟩ hd_X9_hangOnChildren rfl rfl ⟨(Nat.le_of_ble_eq_true rfl), (Nat.le_of_ble_eq_true rfl)⟩ ⟨Nat.zero_le _, Nat.zero_le _⟩ mPre_blind (va_recv hK hP (ci := 5) rfl cM_o) (mPre_call hP hK hN) rfl rfl hl.1 (Nat.le_of_ble_eq_true rfl) dX9_mark_91 ?_
          cases h
          exact W.iret hx hb hr (fun t ht _ => ⟨rfl, by rw [ht]; exact hP, hS.F ht⟩) hS.2.2 dX9_mark_94
        replace h := if_f q38_2 h
        by_cases q38_3 : a2 = (4 : Int32)
        · replace h := if_t q38_3 h
          refine lv_tableIn (tgt := 95) (off := 57) hx hb dX9_mark_38 (by rw [q38_3]; decide) (by rw [q38_3]; decide) (by rw [q38_3]; rfl) (by decide) ?_
          refine lv_aload_n hx hb dX9_mark_95 rfl (lv_at hl 0 rfl) ?_
          obtain ⟨r96, hc96, h⟩ := Option.bind_eq_some_iff.mp h
          refine rcV (As := []) (rest := []) ⟨hx, hb, hml, hown, hts⟩ (c_X9_deepest l X mi ml ma mb hc96) ⟨w_1018, w_1020, w_25, w_58, w_1021⟩ hd_X9_deepest rfl rfl ⟨(Nat.le_of_ble_eq_true rfl), (Nat.le_of_ble_eq_true rfl)⟩ ⟨Nat.zero_le _, Nat.zero_le _⟩ mPre_blind (va_recv hK hP (ci := 5) rfl cM_o) (mPre_call hP hK hN) rfl rfl hl.1 (Nat.le_of_ble_eq_true rfl) dX9_mark_96 ?_
          cases h
          exact W.iret hx hb hr (fun t ht _ => ⟨rfl, by rw [ht]; exact hP, hS.F ht⟩) hS.2.2 dX9_mark_99
        replace h := if_f q38_3 h
        refine lv_tableOut (tgt := 100) hx hb dX9_mark_38 (by have := tb_1_4 a2 q38_0 q38_1 q38_2 q38_3; exact this) (by decide) ?_
        refine lv_aload_n hx hb dX9_mark_100 rfl (lv_at hl 0 rfl) ?_
        refine lv_iload_n hx hb dX9_mark_101 rfl (lv_at hl 1 rfl) ?_
        obtain ⟨r102, hc102, h⟩ := Option.bind_eq_some_iff.mp h
        refine rcV (As := [.int a1]) (rest := []) ⟨hx, hb, hml, hown, hts⟩ (c_X9_fedBy l X mi ml ma mb a1 hc102) ⟨w_1038, w_1040, w_29, w_58, w_1041⟩ hd_X9_fedBy rfl rfl ⟨(Nat.le_of_ble_eq_true rfl), (Nat.le_of_ble_eq_true rfl)⟩ ⟨Nat.zero_le _, Nat.zero_le _⟩ mPre_blind (va_recv hK hP (ci := 5) rfl cM_o) (mPre_call hP hK hN) rfl rfl hl.1 (Nat.le_of_ble_eq_true rfl) dX9_mark_102 ?_
        obtain ⟨r105, hc105, h⟩ := Option.bind_eq_some_iff.mp h
        refine rcS (As := [.int r102]) (rest := []) ⟨hx, hb, hml, hown, hts⟩ (c_X9_bits l r102 hc105) ⟨w_1030, w_1031, w_58, w_1032⟩ hd_X9_bits rfl rfl ⟨(Nat.le_of_ble_eq_true rfl), (Nat.le_of_ble_eq_true rfl)⟩ ⟨Nat.zero_le _, Nat.zero_le _⟩ (fun _ _ _ _ h => h) (fun _ _ _ => trivial) rfl rfl hl.1 (Nat.le_of_ble_eq_true rfl) dX9_mark_105 ?_
        cases h
        exact W.iret hx hb hr (fun t ht _ => ⟨rfl, by rw [ht]; exact hP, hS.F ht⟩) hS.2.2 dX9_mark_108
      · replace h := if_t c28 h
        refine lv_aload_n hx hb dX9_mark_31 rfl (lv_at hl 0 rfl) ?_
        refine lv_iconst (v := 3) hx hb dX9_mark_32 (by decide) ?_
        obtain ⟨r33, mi_33, ma_33, hc33, h⟩ := bd3_e h
        refine wcV (As := [.int (3 : Int32)]) (rest := []) ⟨hx, hb, hml, hown, hts⟩ (c_X9_finds l X mi ml ma mb (3 : Int32) hc33) ⟨w_915, w_917, w_12, w_58, w_918⟩ hd_X9_finds rfl rfl ⟨(Nat.le_of_ble_eq_true rfl), (Nat.le_of_ble_eq_true rfl)⟩ ⟨Nat.zero_le _, Nat.zero_le _⟩ mPre_blind (va_recv hK hP (ci := 5) rfl cM_o) (mPre_call hP hK hN) hS (fun _ h => h) rfl rfl hl.1 (Nat.le_of_ble_eq_true rfl) dX9_mark_33 (fun H locs hP _ hS => ?_)
        have hP : va_P X.1 vwCl (cM X mi_33 ml ma_33 mb) H := hP
        refine W.eq (g2 := F0 m 36 ls [.int r33]) rfl ?_
        cases h
        exact W.iret hx hb hr (fun t ht _ => ⟨rfl, by rw [ht]; exact hP, hS.F ht⟩) hS.2.2 dX9_mark_36
    · replace h := if_t c17 h
      refine lv_iconst (v := -1) hx hb dX9_mark_20 (by decide) ?_
      cases h
      exact W.iret hx hb hr (fun t ht _ => ⟨rfl, by rw [ht]; exact hP, hS.F ht⟩) hS.2.2 dX9_mark_21
set_option maxRecDepth 100000 in
set_option maxHeartbeats 4000000 in
theorem c_X9_taste (l : Launch) (X : gX) (mi : Nat → Int32) (ml : Nat → Int64) (ma : Nat → Nat → Int32) (mb : Nat → Nat → Int64) (a1 : Int32) (a2 : Int32) {o0 : Int32} {o_ma : Nat → Nat → Int32} (h : X9_taste mi a1 a2 ma = some (o0, o_ma)) : Met l yX9_taste (Cond.code yX9_taste cX9_taste 4 (some .int) :: gT) { frames := 2, cells := 0, slots := 0, locals := 46 } (va_Pc [.ref (xB X 0), .int a1, .int a2] (mPre X mi ml ma mb)) (wQ (some (.int o0)) (fun H => va_P X.1 vwCl (cM X mi ml o_ma mb) H) (mA X)) 0 0 (mA X) := by
  refine Met.ofW (cc := cX9_taste) (maxL := 4) (ret := (some .int)) (by decide) rfl ?_
  intro p e s m args below meth c s₁ B hml hv
  obtain ⟨rfl, hP, hK, hN⟩ := hv
  have hx := B.exec
  have hb := B.bytes
  have hr := B.returns
  have hts := atoms_spec (ws := (Cond.code yX9_taste cX9_taste 4 (some .int) :: gT)) B.pre
  have hT : ∀ w ∈ gT, w.before _ s = true := fun w hw => hts w (List.mem_cons_of_mem _ hw)
  have hown : s.vm.findClass RX9 = some m.cls := findClass_of_methodNamed B.named
  have hlocks := B.notSynchronized
  have hS : va_S (mA X) s.heap s.heap [] := va_S.rf
  have hl := lv_entry ([.ref (xB X 0), .int a1, .int a2]) (n := 4) (Nat.le_of_ble_eq_true rfl)
  rw [lg_entry_eq]
  generalize (lg_sl ([.ref (xB X 0), .int a1, .int a2]) ++ List.replicate (4 - (lg_sl ([.ref (xB X 0), .int a1, .int a2])).length) Slot.unset).toArray = ls at hl ⊢
  have hl : lv_has ls 4 [(0, .ref (xB X 0)), (1, .int a1), (2, .int a2)] := hl
  rw [X9_taste] at h
  refine lv_aload_n hx hb dX9_taste_0 rfl (lv_at hl 0 rfl) ?_
  refine lv_iload_n hx hb dX9_taste_1 rfl (lv_at hl 1 rfl) ?_
  obtain ⟨r2, hc2, h⟩ := Option.bind_eq_some_iff.mp h
  refine rcV (As := [.int a1]) (rest := []) ⟨hx, hb, hml, hown, hts⟩ (c_X9_isOne l X mi ml ma mb a1 hc2) ⟨w_986, w_988, w_18, w_58, w_989⟩ hd_X9_isOne rfl rfl ⟨(Nat.le_of_ble_eq_true rfl), (Nat.le_of_ble_eq_true rfl)⟩ ⟨Nat.zero_le _, Nat.zero_le _⟩ mPre_blind (va_recv hK hP (ci := 5) rfl cM_o) (mPre_call hP hK hN) rfl rfl hl.1 (Nat.le_of_ble_eq_true rfl) dX9_taste_2 ?_
  refine lv_if_eq (tgt := 20) hx hb dX9_taste_5 (by decide) (fun c5 => ?_) (fun c5 => ?_)
  · replace h := if_t c5 h
    refine lv_iconst (v := -1) hx hb dX9_taste_20 (by decide) ?_
    cases h
    exact W.iret hx hb hr (fun t ht _ => ⟨rfl, by rw [ht]; exact hP, hS.F ht⟩) hS.2.2 dX9_taste_21
  · replace h := if_f c5 h
    refine lv_iload_n hx hb dX9_taste_8 rfl (lv_at hl 2 rfl) ?_
    refine lv_i2l hx hb dX9_taste_9 rfl ?_
    refine lv_lconst (v := 1) hx hb dX9_taste_10 (by decide) ?_
    refine lv_ldc2 (v := 8) hx hb hown (hT _ w_1050) dX9_taste_11 ?_
    obtain ⟨r14, hc14, h⟩ := Option.bind_eq_some_iff.mp h
    refine rcS (As := [.long a2.toInt64, .long (1 : Int64), .long (8 : Int64)]) (rest := []) ⟨hx, hb, hml, hown, hts⟩ (c_X9_in l a2.toInt64 (1 : Int64) (8 : Int64) hc14) ⟨w_912, w_913, w_58, w_914⟩ hd_X9_in rfl rfl ⟨(Nat.le_of_ble_eq_true rfl), (Nat.le_of_ble_eq_true rfl)⟩ ⟨Nat.zero_le _, Nat.zero_le _⟩ (fun _ _ _ _ h => h) (fun _ _ _ => trivial) rfl rfl hl.1 (Nat.le_of_ble_eq_true rfl) dX9_taste_14 ?_
    refine lv_if_ne (tgt := 22) hx hb dX9_taste_17 (by decide) (fun c17 => ?_) (fun c17 => ?_)
    · replace h := if_f c17 h
      refine lv_aload_n hx hb dX9_taste_22 rfl (lv_at hl 0 rfl) ?_
      refine rg_M_taste hx hb hT hown hK hP w_781 dX9_taste_23 ?_
      refine lv_iload_n hx hb dX9_taste_26 rfl (lv_at hl 1 rfl) ?_
      obtain ⟨hi27, h⟩ := gd_e h
      refine ra_m1 hx hb hK hP (ib_in hi27) dX9_taste_27 ?_
      refine lv_istore_n (lv' := [(3, .int (ma 1 a1.toNatClampNeg)), (0, .ref (xB X 0)), (1, .int a1), (2, .int a2)]) hx hb dX9_taste_28 rfl hl (by decide) rfl (fun ls hl => ?_)
      refine lv_aload_n hx hb dX9_taste_29 rfl (lv_at hl 1 rfl) ?_
      refine rg_M_taste hx hb hT hown hK hP w_781 dX9_taste_30 ?_
      refine lv_iload_n hx hb dX9_taste_33 rfl (lv_at hl 2 rfl) ?_
      refine lv_iload_n hx hb dX9_taste_34 rfl (lv_at hl 3 rfl) ?_
      obtain ⟨hi35, h⟩ := gd_e h
      refine rs_m1 hx hb hK hP hN hS (ib_in hi35) dX9_taste_35 (fun H locs hP hS => ?_)
      generalize ema_35 : va_up ma 1 (upd (ma 1) a1.toNatClampNeg a2) = ma_35 at hP
      replace h := lt_g h ema_35
      refine lv_iload_n hx hb dX9_taste_36 rfl (lv_at hl 0 rfl) ?_
      cases h
      exact W.iret hx hb hr (fun t ht _ => ⟨rfl, by rw [ht]; exact hP, hS.F ht⟩) hS.2.2 dX9_taste_37
    · replace h := if_t c17 h
      refine lv_iconst (v := -1) hx hb dX9_taste_20 (by decide) ?_
      cases h
      exact W.iret hx hb hr (fun t ht _ => ⟨rfl, by rw [ht]; exact hP, hS.F ht⟩) hS.2.2 dX9_taste_21
