set_option maxRecDepth 100000 in
set_option maxHeartbeats 4000000 in
theorem c_X9_door (l : Launch) (X : gX) (mi : Nat → Int32) (ml : Nat → Int64) (ma : Nat → Nat → Int32) (mb : Nat → Nat → Int64) (a1 : Int32) {o0 : Int32} (h : X9_door mi ma a1 = some o0) : Met l yX9_door (Cond.code yX9_door cX9_door 2 (some .int) :: gT) { frames := 2, cells := 0, slots := 0, locals := 45 } (va_Pc [.ref (xB X 0), .int a1] (mPre X mi ml ma mb)) (k2_QcV (.int o0)) 0 0 (fun _ => False) := by
  refine Met.ofW (cc := cX9_door) (maxL := 2) (ret := (some .int)) (by decide) rfl ?_
  intro p e s m args below meth c s₁ B hml hv
  obtain ⟨rfl, hP, hK, hN⟩ := hv
  have hx := B.exec
  have hb := B.bytes
  have hr := B.returns
  have hts := atoms_spec (ws := (Cond.code yX9_door cX9_door 2 (some .int) :: gT)) B.pre
  have hT : ∀ w ∈ gT, w.before _ s = true := fun w hw => hts w (List.mem_cons_of_mem _ hw)
  have hown : s.vm.findClass RX9 = some m.cls := findClass_of_methodNamed B.named
  have hlocks := B.notSynchronized
  have hS : va_S (mA X) s.heap s.heap [] := va_S.rf
  have hl := lv_entry ([.ref (xB X 0), .int a1]) (n := 2) (Nat.le_of_ble_eq_true rfl)
  rw [lg_entry_eq]
  generalize (lg_sl ([.ref (xB X 0), .int a1]) ++ List.replicate (2 - (lg_sl ([.ref (xB X 0), .int a1])).length) Slot.unset).toArray = ls at hl ⊢
  have hl : lv_has ls 2 [(0, .ref (xB X 0)), (1, .int a1)] := hl
  rw [X9_door] at h
  refine lv_iload_n hx hb dX9_door_0 rfl (lv_at hl 1 rfl) ?_
  refine lv_i2l hx hb dX9_door_1 rfl ?_
  refine lv_lconst (v := 0) hx hb dX9_door_2 (by decide) ?_
  refine lv_ldc2 (v := 7) hx hb hown (hT _ w_1124) dX9_door_3 ?_
  obtain ⟨r6, hc6, h⟩ := Option.bind_eq_some_iff.mp h
  refine rcS (As := [.long a1.toInt64, .long (0 : Int64), .long (7 : Int64)]) (rest := []) ⟨hx, hb, hml, hown, hts⟩ (c_X9_in l a1.toInt64 (0 : Int64) (7 : Int64) hc6) ⟨w_912, w_913, w_58, w_914⟩ hd_X9_in rfl rfl ⟨(Nat.le_of_ble_eq_true rfl), (Nat.le_of_ble_eq_true rfl)⟩ ⟨Nat.zero_le _, Nat.zero_le _⟩ (fun _ _ _ _ h => h) (fun _ _ _ => trivial) rfl rfl hl.1 (Nat.le_of_ble_eq_true rfl) dX9_door_6 ?_
  refine lv_if_eq (tgt := 20) hx hb dX9_door_9 (by decide) (fun c9 => ?_) (fun c9 => ?_)
  · replace h := if_t c9 h
    refine lv_iconst (v := -1) hx hb dX9_door_20 (by decide) ?_
    cases h
    exact W.iret hx hb hr (fun t ht _ => ⟨rfl, ht⟩) (fun _ hq => by cases hq) dX9_door_21
  · replace h := if_f c9 h
    refine lv_aload_n hx hb dX9_door_12 rfl (lv_at hl 0 rfl) ?_
    refine lv_iload_n hx hb dX9_door_13 rfl (lv_at hl 1 rfl) ?_
    obtain ⟨r14, hc14, h⟩ := Option.bind_eq_some_iff.mp h
    refine rcV (As := [.int a1]) (rest := []) ⟨hx, hb, hml, hown, hts⟩ (c_X9_tooMany l X mi ml ma mb a1 hc14) ⟨w_1125, w_1127, w_36, w_58, w_1128⟩ hd_X9_tooMany rfl rfl ⟨(Nat.le_of_ble_eq_true rfl), (Nat.le_of_ble_eq_true rfl)⟩ ⟨Nat.zero_le _, Nat.zero_le _⟩ mPre_blind (va_recv hK hP (ci := 5) rfl cM_o) (mPre_call hP hK hN) rfl rfl hl.1 (Nat.le_of_ble_eq_true rfl) dX9_door_14 ?_
    refine lv_goto (tgt := 21) hx hb dX9_door_17 (by decide) ?_
    cases h
    exact W.iret hx hb hr (fun t ht _ => ⟨rfl, ht⟩) (fun _ hq => by cases hq) dX9_door_21
set_option maxRecDepth 100000 in
set_option maxHeartbeats 4000000 in
theorem c_X9_tooDeep (l : Launch) (X : gX) (mi : Nat → Int32) (ml : Nat → Int64) (ma : Nat → Nat → Int32) (mb : Nat → Nat → Int64) (a1 : Int32) {o0 : Int32} (h : X9_tooDeep mi ma a1 = some o0) : Met l yX9_tooDeep (Cond.code yX9_tooDeep cX9_tooDeep 4 (some .int) :: gT) { frames := 1, cells := 0, slots := 0, locals := 23 } (va_Pc [.ref (xB X 0), .int a1] (mPre X mi ml ma mb)) (k2_QcV (.int o0)) 0 0 (fun _ => False) := by
  refine Met.ofW (cc := cX9_tooDeep) (maxL := 4) (ret := (some .int)) (by decide) rfl ?_
  intro p e s m args below meth c s₁ B hml hv
  obtain ⟨rfl, hP, hK, hN⟩ := hv
  have hx := B.exec
  have hb := B.bytes
  have hr := B.returns
  have hts := atoms_spec (ws := (Cond.code yX9_tooDeep cX9_tooDeep 4 (some .int) :: gT)) B.pre
  have hT : ∀ w ∈ gT, w.before _ s = true := fun w hw => hts w (List.mem_cons_of_mem _ hw)
  have hown : s.vm.findClass RX9 = some m.cls := findClass_of_methodNamed B.named
  have hlocks := B.notSynchronized
  have hS : va_S (mA X) s.heap s.heap [] := va_S.rf
  have hl := lv_entry ([.ref (xB X 0), .int a1]) (n := 4) (Nat.le_of_ble_eq_true rfl)
  rw [lg_entry_eq]
  generalize (lg_sl ([.ref (xB X 0), .int a1]) ++ List.replicate (4 - (lg_sl ([.ref (xB X 0), .int a1])).length) Slot.unset).toArray = ls at hl ⊢
  have hl : lv_has ls 4 [(0, .ref (xB X 0)), (1, .int a1)] := hl
  have hL4 : ∀ (n4 : Nat) (v1 : Int32) (v2 : Int32) (v3 : Int32) (ls : Array Slot), lv_has ls 4 [(0, .ref (xB X 0)), (1, .int v1), (2, .int v2), (3, .int v3)] → X9_tooDeep_4 mi ma n4 v1 v2 v3 = some o0 → W p l e (headSpec (Cond.code yX9_tooDeep cX9_tooDeep 4 (some .int) :: gT) { frames := 1, cells := 0, slots := 0, locals := 23 }).room s m [.ref (xB X 0), .int a1].toArray below meth c s.heap [] 0 0 (MQ below (k2_QcV (.int o0)) [.ref (xB X 0), .int a1].toArray s 0 0 (fun _ => False)) (F0 m 4 ls []) := by
    intro n4
    induction n4 with
    | zero =>
      intro v1 v2 v3 ls hl h
      rw [X9_tooDeep_4] at h
      cases h
    | succ n4 ih4 =>
      intro v1 v2 v3 ls hl h
      rw [X9_tooDeep_4] at h
      refine lv_iload_n hx hb dX9_tooDeep_4 rfl (lv_at hl 3 rfl) ?_
      refine lv_aload_n hx hb dX9_tooDeep_5 rfl (lv_at hl 0 rfl) ?_
      refine rg_M_people hx hb hT hown hK hP w_779 dX9_tooDeep_6 ?_
      refine lv_icmp_ge (tgt := 37) hx hb dX9_tooDeep_9 (by decide) (fun c9 => ?_) (fun c9 => ?_)
      · replace h := if_t c9 h
        refine lv_iload_n hx hb dX9_tooDeep_37 rfl (lv_at hl 2 rfl) ?_
        cases h
        exact W.iret hx hb hr (fun t ht _ => ⟨rfl, ht⟩) (fun _ hq => by cases hq) dX9_tooDeep_38
      · replace h := if_f c9 h
        refine lv_iload_n hx hb dX9_tooDeep_12 rfl (lv_at hl 2 rfl) ?_
        refine lv_aload_n hx hb dX9_tooDeep_13 rfl (lv_at hl 0 rfl) ?_
        refine lv_iload_n hx hb dX9_tooDeep_14 rfl (lv_at hl 3 rfl) ?_
        obtain ⟨r15, hc15, h⟩ := Option.bind_eq_some_iff.mp h
        refine rcV (As := [.int v3]) (rest := [.int v2]) ⟨hx, hb, hml, hown, hts⟩ (c_X9_depthOf l X mi ml ma mb v3 hc15) ⟨w_998, w_1000, w_21, w_58, w_1001⟩ hd_X9_depthOf rfl rfl ⟨(Nat.le_of_ble_eq_true rfl), (Nat.le_of_ble_eq_true rfl)⟩ ⟨Nat.zero_le _, Nat.zero_le _⟩ mPre_blind (va_recv hK hP (ci := 5) rfl cM_o) (mPre_call hP hK hN) rfl rfl hl.1 (Nat.le_of_ble_eq_true rfl) dX9_tooDeep_15 ?_
        refine lv_iload_n hx hb dX9_tooDeep_18 rfl (lv_at hl 1 rfl) ?_
        refine lv_icmp_le (tgt := 28) hx hb dX9_tooDeep_19 (by decide) (fun c19 => ?_) (fun c19 => ?_)
        · replace h := if_t c19 h
          refine lv_iconst (v := 0) hx hb dX9_tooDeep_28 (by decide) ?_
          refine lv_ior hx hb dX9_tooDeep_29 ?_
          refine lv_istore_n (lv' := [(2, .int (v2 ||| (0 : Int32))), (0, .ref (xB X 0)), (1, .int v1), (3, .int v3)]) hx hb dX9_tooDeep_30 rfl hl (by decide) rfl (fun ls hl => ?_)
          refine lv_iinc (v := (v3 + (1 : Int32))) (lv' := [(3, .int (v3 + (1 : Int32))), (2, .int (v2 ||| (0 : Int32))), (0, .ref (xB X 0)), (1, .int v1)]) hx hb dX9_tooDeep_31 hl (k := 3) rfl rfl (by decide) rfl (fun ls hl => ?_)
          refine lv_goto (tgt := 4) hx hb dX9_tooDeep_34 (by decide) ?_
          exact ih4 v1 (v2 ||| (0 : Int32)) (v3 + (1 : Int32)) ls (lv_sub hl [2, 3, 1, 0] rfl) h
        · replace h := if_f c19 h
          refine lv_iconst (v := 1) hx hb dX9_tooDeep_22 (by decide) ?_
          refine lv_iload_n hx hb dX9_tooDeep_23 rfl (lv_at hl 3 rfl) ?_
          refine lv_ishl hx hb dX9_tooDeep_24 ?_
          refine lv_goto (tgt := 29) hx hb dX9_tooDeep_25 (by decide) ?_
          refine lv_ior hx hb dX9_tooDeep_29 ?_
          refine lv_istore_n (lv' := [(2, .int (v2 ||| ((1 : Int32) <<< (v3 &&& 31)))), (0, .ref (xB X 0)), (1, .int v1), (3, .int v3)]) hx hb dX9_tooDeep_30 rfl hl (by decide) rfl (fun ls hl => ?_)
          refine lv_iinc (v := (v3 + (1 : Int32))) (lv' := [(3, .int (v3 + (1 : Int32))), (2, .int (v2 ||| ((1 : Int32) <<< (v3 &&& 31)))), (0, .ref (xB X 0)), (1, .int v1)]) hx hb dX9_tooDeep_31 hl (k := 3) rfl rfl (by decide) rfl (fun ls hl => ?_)
          refine lv_goto (tgt := 4) hx hb dX9_tooDeep_34 (by decide) ?_
          exact ih4 v1 (v2 ||| ((1 : Int32) <<< (v3 &&& 31))) (v3 + (1 : Int32)) ls (lv_sub hl [2, 3, 1, 0] rfl) h
  rw [X9_tooDeep] at h
  refine lv_iconst (v := 0) hx hb dX9_tooDeep_0 (by decide) ?_
  refine lv_istore_n (lv' := [(2, .int (0 : Int32)), (0, .ref (xB X 0)), (1, .int a1)]) hx hb dX9_tooDeep_1 rfl hl (by decide) rfl (fun ls hl => ?_)
  refine lv_iconst (v := 0) hx hb dX9_tooDeep_2 (by decide) ?_
  refine lv_istore_n (lv' := [(3, .int (0 : Int32)), (2, .int (0 : Int32)), (0, .ref (xB X 0)), (1, .int a1)]) hx hb dX9_tooDeep_3 rfl hl (by decide) rfl (fun ls hl => ?_)
  exact hL4 500 a1 (0 : Int32) (0 : Int32) ls (lv_sub hl [2, 3, 1, 0] rfl) h
set_option maxRecDepth 100000 in
set_option maxHeartbeats 4000000 in
theorem c_X9_stairs (l : Launch) (X : gX) (mi : Nat → Int32) (ml : Nat → Int64) (ma : Nat → Nat → Int32) (mb : Nat → Nat → Int64) (a1 : Int32) {o0 : Int32} (h : X9_stairs mi ma a1 = some o0) : Met l yX9_stairs (Cond.code yX9_stairs cX9_stairs 2 (some .int) :: gT) { frames := 2, cells := 0, slots := 0, locals := 46 } (va_Pc [.ref (xB X 0), .int a1] (mPre X mi ml ma mb)) (k2_QcV (.int o0)) 0 0 (fun _ => False) := by
  refine Met.ofW (cc := cX9_stairs) (maxL := 2) (ret := (some .int)) (by decide) rfl ?_
  intro p e s m args below meth c s₁ B hml hv
  obtain ⟨rfl, hP, hK, hN⟩ := hv
  have hx := B.exec
  have hb := B.bytes
  have hr := B.returns
  have hts := atoms_spec (ws := (Cond.code yX9_stairs cX9_stairs 2 (some .int) :: gT)) B.pre
  have hT : ∀ w ∈ gT, w.before _ s = true := fun w hw => hts w (List.mem_cons_of_mem _ hw)
  have hown : s.vm.findClass RX9 = some m.cls := findClass_of_methodNamed B.named
  have hlocks := B.notSynchronized
  have hS : va_S (mA X) s.heap s.heap [] := va_S.rf
  have hl := lv_entry ([.ref (xB X 0), .int a1]) (n := 2) (Nat.le_of_ble_eq_true rfl)
  rw [lg_entry_eq]
  generalize (lg_sl ([.ref (xB X 0), .int a1]) ++ List.replicate (2 - (lg_sl ([.ref (xB X 0), .int a1])).length) Slot.unset).toArray = ls at hl ⊢
  have hl : lv_has ls 2 [(0, .ref (xB X 0)), (1, .int a1)] := hl
  rw [X9_stairs] at h
  refine lv_iload_n hx hb dX9_stairs_0 rfl (lv_at hl 1 rfl) ?_
  refine lv_i2l hx hb dX9_stairs_1 rfl ?_
  refine lv_lconst (v := 0) hx hb dX9_stairs_2 (by decide) ?_
  refine lv_ldc2 (v := 7) hx hb hown (hT _ w_1124) dX9_stairs_3 ?_
  obtain ⟨r6, hc6, h⟩ := Option.bind_eq_some_iff.mp h
  refine rcS (As := [.long a1.toInt64, .long (0 : Int64), .long (7 : Int64)]) (rest := []) ⟨hx, hb, hml, hown, hts⟩ (c_X9_in l a1.toInt64 (0 : Int64) (7 : Int64) hc6) ⟨w_912, w_913, w_58, w_914⟩ hd_X9_in rfl rfl ⟨(Nat.le_of_ble_eq_true rfl), (Nat.le_of_ble_eq_true rfl)⟩ ⟨Nat.zero_le _, Nat.zero_le _⟩ (fun _ _ _ _ h => h) (fun _ _ _ => trivial) rfl rfl hl.1 (Nat.le_of_ble_eq_true rfl) dX9_stairs_6 ?_
  refine lv_if_eq (tgt := 20) hx hb dX9_stairs_9 (by decide) (fun c9 => ?_) (fun c9 => ?_)
  · replace h := if_t c9 h
    refine lv_iconst (v := -1) hx hb dX9_stairs_20 (by decide) ?_
    cases h
    exact W.iret hx hb hr (fun t ht _ => ⟨rfl, ht⟩) (fun _ hq => by cases hq) dX9_stairs_21
  · replace h := if_f c9 h
    refine lv_aload_n hx hb dX9_stairs_12 rfl (lv_at hl 0 rfl) ?_
    refine lv_iload_n hx hb dX9_stairs_13 rfl (lv_at hl 1 rfl) ?_
    obtain ⟨r14, hc14, h⟩ := Option.bind_eq_some_iff.mp h
    refine rcV (As := [.int a1]) (rest := []) ⟨hx, hb, hml, hown, hts⟩ (c_X9_tooDeep l X mi ml ma mb a1 hc14) ⟨w_1133, w_1135, w_37, w_58, w_1136⟩ hd_X9_tooDeep rfl rfl ⟨(Nat.le_of_ble_eq_true rfl), (Nat.le_of_ble_eq_true rfl)⟩ ⟨Nat.zero_le _, Nat.zero_le _⟩ mPre_blind (va_recv hK hP (ci := 5) rfl cM_o) (mPre_call hP hK hN) rfl rfl hl.1 (Nat.le_of_ble_eq_true rfl) dX9_stairs_14 ?_
    refine lv_goto (tgt := 21) hx hb dX9_stairs_17 (by decide) ?_
    cases h
    exact W.iret hx hb hr (fun t ht _ => ⟨rfl, ht⟩) (fun _ hq => by cases hq) dX9_stairs_21
set_option maxRecDepth 100000 in
set_option maxHeartbeats 4000000 in
theorem c_X9_leftBy (l : Launch) (X : gX) (mi : Nat → Int32) (ml : Nat → Int64) (ma : Nat → Nat → Int32) (mb : Nat → Nat → Int64) (a1 : Int32) {o0 : Int32} (h : X9_leftBy mi ma a1 = some o0) : Met l yX9_leftBy (Cond.code yX9_leftBy cX9_leftBy 5 (some .int) :: gT) { frames := 1, cells := 0, slots := 0, locals := 21 } (va_Pc [.ref (xB X 0), .int a1] (mPre X mi ml ma mb)) (k2_QcV (.int o0)) 0 0 (fun _ => False) := by
  refine Met.ofW (cc := cX9_leftBy) (maxL := 5) (ret := (some .int)) (by decide) rfl ?_
  intro p e s m args below meth c s₁ B hml hv
  obtain ⟨rfl, hP, hK, hN⟩ := hv
  have hx := B.exec
  have hb := B.bytes
  have hr := B.returns
  have hts := atoms_spec (ws := (Cond.code yX9_leftBy cX9_leftBy 5 (some .int) :: gT)) B.pre
  have hT : ∀ w ∈ gT, w.before _ s = true := fun w hw => hts w (List.mem_cons_of_mem _ hw)
  have hown : s.vm.findClass RX9 = some m.cls := findClass_of_methodNamed B.named
  have hlocks := B.notSynchronized
  have hS : va_S (mA X) s.heap s.heap [] := va_S.rf
  have hl := lv_entry ([.ref (xB X 0), .int a1]) (n := 5) (Nat.le_of_ble_eq_true rfl)
  rw [lg_entry_eq]
  generalize (lg_sl ([.ref (xB X 0), .int a1]) ++ List.replicate (5 - (lg_sl ([.ref (xB X 0), .int a1])).length) Slot.unset).toArray = ls at hl ⊢
  have hl : lv_has ls 5 [(0, .ref (xB X 0)), (1, .int a1)] := hl
  have hL4 : ∀ (n4 : Nat) (v1 : Int32) (v2 : Int32) (v3 : Int32) (ls : Array Slot), lv_has ls 5 [(0, .ref (xB X 0)), (1, .int v1), (2, .int v2), (3, .int v3)] → X9_leftBy_4 mi ma n4 v1 v2 v3 = some o0 → W p l e (headSpec (Cond.code yX9_leftBy cX9_leftBy 5 (some .int) :: gT) { frames := 1, cells := 0, slots := 0, locals := 21 }).room s m [.ref (xB X 0), .int a1].toArray below meth c s.heap [] 0 0 (MQ below (k2_QcV (.int o0)) [.ref (xB X 0), .int a1].toArray s 0 0 (fun _ => False)) (F0 m 4 ls []) := by
    intro n4
    induction n4 with
    | zero =>
      intro v1 v2 v3 ls hl h
      rw [X9_leftBy_4] at h
      cases h
    | succ n4 ih4 =>
      intro v1 v2 v3 ls hl h
      rw [X9_leftBy_4] at h
      have hL50 : ∀ (v1 : Int32) (v2 : Int32) (v3 : Int32) (v4 : Int32) (ls : Array Slot), lv_has ls 5 [(0, .ref (xB X 0)), (1, .int v1), (2, .int v2), (3, .int v3), (4, .int v4)] → X9_leftBy_50 mi ma (X9_leftBy_4 mi ma n4) v1 v2 v3 v4 = some o0 → W p l e (headSpec (Cond.code yX9_leftBy cX9_leftBy 5 (some .int) :: gT) { frames := 1, cells := 0, slots := 0, locals := 21 }).room s m [.ref (xB X 0), .int a1].toArray below meth c s.heap [] 0 0 (MQ below (k2_QcV (.int o0)) [.ref (xB X 0), .int a1].toArray s 0 0 (fun _ => False)) (F0 m 50 ls []) := by
        intro v1 v2 v3 v4 ls hl h
        rw [X9_leftBy_50] at h
        refine lv_iload_n hx hb dX9_leftBy_50 rfl (lv_at hl 2 rfl) ?_
        refine lv_iload hx hb dX9_leftBy_51 (lv_at hl 4 rfl) ?_
        refine lv_bipush (v := 9) hx hb dX9_leftBy_53 (by decide) ?_
        refine lv_icmp_ne (tgt := 64) hx hb dX9_leftBy_55 (by decide) (fun c55 => ?_) (fun c55 => ?_)
        · replace h := if_f c55 h
          refine lv_iconst (v := 0) hx hb dX9_leftBy_64 (by decide) ?_
          refine lv_ior hx hb dX9_leftBy_65 ?_
          refine lv_istore_n (lv' := [(2, .int (v2 ||| (0 : Int32))), (0, .ref (xB X 0)), (1, .int v1), (3, .int v3), (4, .int v4)]) hx hb dX9_leftBy_66 rfl hl (by decide) rfl (fun ls hl => ?_)
          refine lv_iinc (v := (v3 + (1 : Int32))) (lv' := [(3, .int (v3 + (1 : Int32))), (2, .int (v2 ||| (0 : Int32))), (0, .ref (xB X 0)), (1, .int v1), (4, .int v4)]) hx hb dX9_leftBy_67 hl (k := 3) rfl rfl (by decide) rfl (fun ls hl => ?_)
          refine lv_goto (tgt := 4) hx hb dX9_leftBy_70 (by decide) ?_
          exact ih4 v1 (v2 ||| (0 : Int32)) (v3 + (1 : Int32)) ls (lv_sub hl [2, 3, 1, 0] rfl) h
        · replace h := if_t c55 h
          refine lv_iconst (v := 1) hx hb dX9_leftBy_58 (by decide) ?_
          refine lv_iload_n hx hb dX9_leftBy_59 rfl (lv_at hl 3 rfl) ?_
          refine lv_ishl hx hb dX9_leftBy_60 ?_
          refine lv_goto (tgt := 65) hx hb dX9_leftBy_61 (by decide) ?_
          refine lv_ior hx hb dX9_leftBy_65 ?_
          refine lv_istore_n (lv' := [(2, .int (v2 ||| ((1 : Int32) <<< (v3 &&& 31)))), (0, .ref (xB X 0)), (1, .int v1), (3, .int v3), (4, .int v4)]) hx hb dX9_leftBy_66 rfl hl (by decide) rfl (fun ls hl => ?_)
          refine lv_iinc (v := (v3 + (1 : Int32))) (lv' := [(3, .int (v3 + (1 : Int32))), (2, .int (v2 ||| ((1 : Int32) <<< (v3 &&& 31)))), (0, .ref (xB X 0)), (1, .int v1), (4, .int v4)]) hx hb dX9_leftBy_67 hl (k := 3) rfl rfl (by decide) rfl (fun ls hl => ?_)
          refine lv_goto (tgt := 4) hx hb dX9_leftBy_70 (by decide) ?_
          exact ih4 v1 (v2 ||| ((1 : Int32) <<< (v3 &&& 31))) (v3 + (1 : Int32)) ls (lv_sub hl [2, 3, 1, 0] rfl) h
      have hL15 : ∀ (n15 : Nat) (v1 : Int32) (v2 : Int32) (v3 : Int32) (v4 : Int32) (ls : Array Slot), lv_has ls 5 [(0, .ref (xB X 0)), (1, .int v1), (2, .int v2), (3, .int v3), (4, .int v4)] → X9_leftBy_15 mi ma (X9_leftBy_4 mi ma n4) n15 v1 v2 v3 v4 = some o0 → W p l e (headSpec (Cond.code yX9_leftBy cX9_leftBy 5 (some .int) :: gT) { frames := 1, cells := 0, slots := 0, locals := 21 }).room s m [.ref (xB X 0), .int a1].toArray below meth c s.heap [] 0 0 (MQ below (k2_QcV (.int o0)) [.ref (xB X 0), .int a1].toArray s 0 0 (fun _ => False)) (F0 m 15 ls []) := by
        intro n15
        induction n15 with
        | zero =>
          intro v1 v2 v3 v4 ls hl h
          rw [X9_leftBy_15] at h
          cases h
        | succ n15 ih15 =>
          intro v1 v2 v3 v4 ls hl h
          rw [X9_leftBy_15] at h
          refine lv_iload hx hb dX9_leftBy_15 (lv_at hl 4 rfl) ?_
          refine lv_bipush (v := 9) hx hb dX9_leftBy_17 (by decide) ?_
          refine lv_icmp_eq (tgt := 50) hx hb dX9_leftBy_19 (by decide) (fun c19 => ?_) (fun c19 => ?_)
          · replace h := if_t c19 h
            exact hL50 v1 v2 v3 v4 ls (lv_sub hl [0, 1, 2, 3, 4] rfl) h
          · replace h := if_f c19 h
            refine lv_iload hx hb dX9_leftBy_22 (lv_at hl 4 rfl) ?_
            refine lv_bipush (v := -9) hx hb dX9_leftBy_24 (by decide) ?_
            refine lv_icmp_eq (tgt := 50) hx hb dX9_leftBy_26 (by decide) (fun c26 => ?_) (fun c26 => ?_)
            · replace h := if_t c26 h
              exact hL50 v1 v2 v3 v4 ls (lv_sub hl [0, 1, 2, 3, 4] rfl) h
            · replace h := if_f c26 h
              refine lv_iload_n hx hb dX9_leftBy_29 rfl (lv_at hl 1 rfl) ?_
              refine lv_iload hx hb dX9_leftBy_30 (lv_at hl 4 rfl) ?_
              obtain ⟨r32, hc32, h⟩ := Option.bind_eq_some_iff.mp h
              refine rcS (As := [.int v1, .int v4]) (rest := []) ⟨hx, hb, hml, hown, hts⟩ (c_X9_has l v1 v4 hc32) ⟨w_1104, w_1105, w_58, w_1106⟩ hd_X9_has rfl rfl ⟨(Nat.le_of_ble_eq_true rfl), (Nat.le_of_ble_eq_true rfl)⟩ ⟨Nat.zero_le _, Nat.zero_le _⟩ (fun _ _ _ _ h => h) (fun _ _ _ => trivial) rfl rfl hl.1 (Nat.le_of_ble_eq_true rfl) dX9_leftBy_32 ?_
              refine lv_if_ne (tgt := 50) hx hb dX9_leftBy_35 (by decide) (fun c35 => ?_) (fun c35 => ?_)
              · replace h := if_f c35 h
                exact hL50 v1 v2 v3 v4 ls (lv_sub hl [0, 1, 2, 3, 4] rfl) h
              · replace h := if_t c35 h
                refine lv_aload_n hx hb dX9_leftBy_38 rfl (lv_at hl 0 rfl) ?_
                refine rg_M_hangs hx hb hT hown hK hP w_782 dX9_leftBy_39 ?_
                refine lv_iload hx hb dX9_leftBy_42 (lv_at hl 4 rfl) ?_
                obtain ⟨hi44, h⟩ := gd_e h
                refine ra_m2 hx hb hK hP (ib_in hi44) dX9_leftBy_44 ?_
                refine lv_istore (lv' := [(4, .int (ma 2 v4.toNatClampNeg)), (0, .ref (xB X 0)), (1, .int v1), (2, .int v2), (3, .int v3)]) hx hb dX9_leftBy_45 hl (by decide) rfl (fun ls hl => ?_)
                refine lv_goto (tgt := 15) hx hb dX9_leftBy_47 (by decide) ?_
                exact ih15 v1 v2 v3 (ma 2 v4.toNatClampNeg) ls (lv_sub hl [1, 2, 3, 4, 0] rfl) h
      refine lv_iload_n hx hb dX9_leftBy_4 rfl (lv_at hl 3 rfl) ?_
      refine lv_aload_n hx hb dX9_leftBy_5 rfl (lv_at hl 0 rfl) ?_
      refine rg_M_people hx hb hT hown hK hP w_779 dX9_leftBy_6 ?_
      refine lv_icmp_ge (tgt := 73) hx hb dX9_leftBy_9 (by decide) (fun c9 => ?_) (fun c9 => ?_)
      · replace h := if_t c9 h
        refine lv_iload_n hx hb dX9_leftBy_73 rfl (lv_at hl 2 rfl) ?_
        cases h
        exact W.iret hx hb hr (fun t ht _ => ⟨rfl, ht⟩) (fun _ hq => by cases hq) dX9_leftBy_74
      · replace h := if_f c9 h
        refine lv_iload_n hx hb dX9_leftBy_12 rfl (lv_at hl 3 rfl) ?_
        refine lv_istore (lv' := [(4, .int v3), (0, .ref (xB X 0)), (1, .int v1), (2, .int v2), (3, .int v3)]) hx hb dX9_leftBy_13 hl (by decide) rfl (fun ls hl => ?_)
        exact hL15 500 v1 v2 v3 v3 ls (lv_sub hl [1, 2, 3, 4, 0] rfl) h
  rw [X9_leftBy] at h
  refine lv_iconst (v := 0) hx hb dX9_leftBy_0 (by decide) ?_
  refine lv_istore_n (lv' := [(2, .int (0 : Int32)), (0, .ref (xB X 0)), (1, .int a1)]) hx hb dX9_leftBy_1 rfl hl (by decide) rfl (fun ls hl => ?_)
  refine lv_iconst (v := 0) hx hb dX9_leftBy_2 (by decide) ?_
  refine lv_istore_n (lv' := [(3, .int (0 : Int32)), (2, .int (0 : Int32)), (0, .ref (xB X 0)), (1, .int a1)]) hx hb dX9_leftBy_3 rfl hl (by decide) rfl (fun ls hl => ?_)
  exact hL4 500 a1 (0 : Int32) (0 : Int32) ls (lv_sub hl [2, 3, 1, 0] rfl) h
set_option maxRecDepth 100000 in
set_option maxHeartbeats 4000000 in
theorem c_X9_passes (l : Launch) (X : gX) (mi : Nat → Int32) (ml : Nat → Int64) (ma : Nat → Nat → Int32) (mb : Nat → Nat → Int64) (a1 : Int32) (a2 : Int32) (a3 : Int32) {o0 : Int32} (h : X9_passes mi ma a1 a2 a3 = some o0) : Met l yX9_passes (Cond.code yX9_passes cX9_passes 6 (some .boolean) :: gT) { frames := 2, cells := 0, slots := 0, locals := 46 } (va_Pc [.ref (xB X 0), .int a1, .int a2, .int a3] (mPre X mi ml ma mb)) (k2_QcV (.int o0)) 0 0 (fun _ => False) := by
  refine Met.ofW (cc := cX9_passes) (maxL := 6) (ret := (some .boolean)) (by decide) rfl ?_
  intro p e s m args below meth c s₁ B hml hv
  obtain ⟨rfl, hP, hK, hN⟩ := hv
  have hx := B.exec
  have hb := B.bytes
  have hr := B.returns
  have hts := atoms_spec (ws := (Cond.code yX9_passes cX9_passes 6 (some .boolean) :: gT)) B.pre
  have hT : ∀ w ∈ gT, w.before _ s = true := fun w hw => hts w (List.mem_cons_of_mem _ hw)
  have hown : s.vm.findClass RX9 = some m.cls := findClass_of_methodNamed B.named
  have hlocks := B.notSynchronized
  have hS : va_S (mA X) s.heap s.heap [] := va_S.rf
  have hl := lv_entry ([.ref (xB X 0), .int a1, .int a2, .int a3]) (n := 6) (Nat.le_of_ble_eq_true rfl)
  rw [lg_entry_eq]
  generalize (lg_sl ([.ref (xB X 0), .int a1, .int a2, .int a3]) ++ List.replicate (6 - (lg_sl ([.ref (xB X 0), .int a1, .int a2, .int a3])).length) Slot.unset).toArray = ls at hl ⊢
  have hl : lv_has ls 6 [(0, .ref (xB X 0)), (1, .int a1), (2, .int a2), (3, .int a3)] := hl
  have hL35 : ∀ (n35 : Nat) (v1 : Int32) (v2 : Int32) (v4 : Int32) (v5 : Int32) (ls : Array Slot), lv_has ls 6 [(0, .ref (xB X 0)), (1, .int v1), (2, .int v2), (4, .int v4), (5, .int v5)] → X9_passes_35 mi ma n35 v1 v2 v4 v5 = some o0 → W p l e (headSpec (Cond.code yX9_passes cX9_passes 6 (some .boolean) :: gT) { frames := 2, cells := 0, slots := 0, locals := 46 }).room s m [.ref (xB X 0), .int a1, .int a2, .int a3].toArray below meth c s.heap [] 0 0 (MQ below (k2_QcV (.int o0)) [.ref (xB X 0), .int a1, .int a2, .int a3].toArray s 0 0 (fun _ => False)) (F0 m 35 ls []) := by
    intro n35
    induction n35 with
    | zero =>
      intro v1 v2 v4 v5 ls hl h
      rw [X9_passes_35] at h
      cases h
    | succ n35 ih35 =>
      intro v1 v2 v4 v5 ls hl h
      rw [X9_passes_35] at h
      refine lv_iload hx hb dX9_passes_35 (lv_at hl 4 rfl) ?_
      refine lv_aload_n hx hb dX9_passes_37 rfl (lv_at hl 0 rfl) ?_
      refine rg_M_people hx hb hT hown hK hP w_779 dX9_passes_38 ?_
      refine lv_icmp_ge (tgt := 86) hx hb dX9_passes_41 (by decide) (fun c41 => ?_) (fun c41 => ?_)
      · replace h := if_t c41 h
        refine lv_iload hx hb dX9_passes_86 (lv_at hl 3 rfl) ?_
        obtain ⟨hz88, h⟩ := gd_e h
        cases h
        exact W.zret (ty := .boolean) hx hb hr (nar01 (of_decide_eq_true hz88)) (fun t ht _ => ⟨rfl, ht⟩) (fun _ hq => by cases hq) dX9_passes_88
      · replace h := if_f c41 h
        refine lv_iload hx hb dX9_passes_44 (lv_at hl 3 rfl) ?_
        refine lv_if_eq (tgt := 77) hx hb dX9_passes_46 (by decide) (fun c46 => ?_) (fun c46 => ?_)
        · replace h := if_t c46 h
          refine lv_iconst (v := 0) hx hb dX9_passes_77 (by decide) ?_
          refine lv_istore (lv' := [(4, .int (0 : Int32)), (0, .ref (xB X 0)), (1, .int v1), (2, .int v2), (5, .int v5)]) hx hb dX9_passes_78 hl (by decide) rfl (fun ls hl => ?_)
          refine lv_iinc (v := (v5 + (1 : Int32))) (lv' := [(5, .int (v5 + (1 : Int32))), (4, .int (0 : Int32)), (0, .ref (xB X 0)), (1, .int v1), (2, .int v2)]) hx hb dX9_passes_80 hl (k := 4) rfl rfl (by decide) rfl (fun ls hl => ?_)
          refine lv_goto (tgt := 35) hx hb dX9_passes_83 (by decide) ?_
          exact ih35 v1 v2 (0 : Int32) (v5 + (1 : Int32)) ls (lv_sub hl [2, 3, 4, 1, 0] rfl) h
        · replace h := if_f c46 h
          refine lv_iload_n hx hb dX9_passes_49 rfl (lv_at hl 1 rfl) ?_
          refine lv_iload hx hb dX9_passes_50 (lv_at hl 4 rfl) ?_
          obtain ⟨r52, hc52, h⟩ := Option.bind_eq_some_iff.mp h
          refine rcS (As := [.int v1, .int v5]) (rest := []) ⟨hx, hb, hml, hown, hts⟩ (c_X9_has l v1 v5 hc52) ⟨w_1104, w_1105, w_58, w_1106⟩ hd_X9_has rfl rfl ⟨(Nat.le_of_ble_eq_true rfl), (Nat.le_of_ble_eq_true rfl)⟩ ⟨Nat.zero_le _, Nat.zero_le _⟩ (fun _ _ _ _ h => h) (fun _ _ _ => trivial) rfl rfl hl.1 (Nat.le_of_ble_eq_true rfl) dX9_passes_52 ?_
          refine lv_if_eq (tgt := 73) hx hb dX9_passes_55 (by decide) (fun c55 => ?_) (fun c55 => ?_)
          · replace h := if_t c55 h
            refine lv_iconst (v := 1) hx hb dX9_passes_73 (by decide) ?_
            refine lv_goto (tgt := 78) hx hb dX9_passes_74 (by decide) ?_
            refine lv_istore (lv' := [(4, .int (1 : Int32)), (0, .ref (xB X 0)), (1, .int v1), (2, .int v2), (5, .int v5)]) hx hb dX9_passes_78 hl (by decide) rfl (fun ls hl => ?_)
            refine lv_iinc (v := (v5 + (1 : Int32))) (lv' := [(5, .int (v5 + (1 : Int32))), (4, .int (1 : Int32)), (0, .ref (xB X 0)), (1, .int v1), (2, .int v2)]) hx hb dX9_passes_80 hl (k := 4) rfl rfl (by decide) rfl (fun ls hl => ?_)
            refine lv_goto (tgt := 35) hx hb dX9_passes_83 (by decide) ?_
            exact ih35 v1 v2 (1 : Int32) (v5 + (1 : Int32)) ls (lv_sub hl [2, 3, 4, 1, 0] rfl) h
          · replace h := if_f c55 h
            refine lv_aload_n hx hb dX9_passes_58 rfl (lv_at hl 0 rfl) ?_
            refine lv_iload hx hb dX9_passes_59 (lv_at hl 4 rfl) ?_
            obtain ⟨r61, hc61, h⟩ := Option.bind_eq_some_iff.mp h
            refine rcV (As := [.int v5]) (rest := []) ⟨hx, hb, hml, hown, hts⟩ (c_X9_hangSet l X mi ml ma mb v5 hc61) ⟨w_1092, w_1094, w_34, w_58, w_1095⟩ hd_X9_hangSet rfl rfl ⟨(Nat.le_of_ble_eq_true rfl), (Nat.le_of_ble_eq_true rfl)⟩ ⟨Nat.zero_le _, Nat.zero_le _⟩ mPre_blind (va_recv hK hP (ci := 5) rfl cM_o) (mPre_call hP hK hN) rfl rfl hl.1 (Nat.le_of_ble_eq_true rfl) dX9_passes_61 ?_
            refine lv_iload_n hx hb dX9_passes_64 rfl (lv_at hl 1 rfl) ?_
            refine lv_iand hx hb dX9_passes_65 ?_
            obtain ⟨r66, hc66, h⟩ := Option.bind_eq_some_iff.mp h
            refine rcS (As := [.int (r61 &&& v1)]) (rest := []) ⟨hx, hb, hml, hown, hts⟩ (c_X9_bits l (r61 &&& v1) hc66) ⟨w_1030, w_1031, w_58, w_1032⟩ hd_X9_bits rfl rfl ⟨(Nat.le_of_ble_eq_true rfl), (Nat.le_of_ble_eq_true rfl)⟩ ⟨Nat.zero_le _, Nat.zero_le _⟩ (fun _ _ _ _ h => h) (fun _ _ _ => trivial) rfl rfl hl.1 (Nat.le_of_ble_eq_true rfl) dX9_passes_66 ?_
            refine lv_iload_n hx hb dX9_passes_69 rfl (lv_at hl 2 rfl) ?_
            refine lv_icmp_gt (tgt := 77) hx hb dX9_passes_70 (by decide) (fun c70 => ?_) (fun c70 => ?_)
            · replace h := if_t c70 h
              refine lv_iconst (v := 0) hx hb dX9_passes_77 (by decide) ?_
              refine lv_istore (lv' := [(4, .int (0 : Int32)), (0, .ref (xB X 0)), (1, .int v1), (2, .int v2), (5, .int v5)]) hx hb dX9_passes_78 hl (by decide) rfl (fun ls hl => ?_)
              refine lv_iinc (v := (v5 + (1 : Int32))) (lv' := [(5, .int (v5 + (1 : Int32))), (4, .int (0 : Int32)), (0, .ref (xB X 0)), (1, .int v1), (2, .int v2)]) hx hb dX9_passes_80 hl (k := 4) rfl rfl (by decide) rfl (fun ls hl => ?_)
              refine lv_goto (tgt := 35) hx hb dX9_passes_83 (by decide) ?_
              exact ih35 v1 v2 (0 : Int32) (v5 + (1 : Int32)) ls (lv_sub hl [2, 3, 4, 1, 0] rfl) h
            · replace h := if_f c70 h
              refine lv_iconst (v := 1) hx hb dX9_passes_73 (by decide) ?_
              refine lv_goto (tgt := 78) hx hb dX9_passes_74 (by decide) ?_
              refine lv_istore (lv' := [(4, .int (1 : Int32)), (0, .ref (xB X 0)), (1, .int v1), (2, .int v2), (5, .int v5)]) hx hb dX9_passes_78 hl (by decide) rfl (fun ls hl => ?_)
              refine lv_iinc (v := (v5 + (1 : Int32))) (lv' := [(5, .int (v5 + (1 : Int32))), (4, .int (1 : Int32)), (0, .ref (xB X 0)), (1, .int v1), (2, .int v2)]) hx hb dX9_passes_80 hl (k := 4) rfl rfl (by decide) rfl (fun ls hl => ?_)
              refine lv_goto (tgt := 35) hx hb dX9_passes_83 (by decide) ?_
              exact ih35 v1 v2 (1 : Int32) (v5 + (1 : Int32)) ls (lv_sub hl [2, 3, 4, 1, 0] rfl) h
  rw [X9_passes] at h
  refine lv_aload_n hx hb dX9_passes_0 rfl (lv_at hl 0 rfl) ?_
  refine lv_bipush (v := 9) hx hb dX9_passes_1 (by decide) ?_
  obtain ⟨r3, hc3, h⟩ := Option.bind_eq_some_iff.mp h
  refine rcV (As := [.int (9 : Int32)]) (rest := []) ⟨hx, hb, hml, hown, hts⟩ (c_X9_hangSet l X mi ml ma mb (9 : Int32) hc3) ⟨w_1092, w_1094, w_34, w_58, w_1095⟩ hd_X9_hangSet rfl rfl ⟨(Nat.le_of_ble_eq_true rfl), (Nat.le_of_ble_eq_true rfl)⟩ ⟨Nat.zero_le _, Nat.zero_le _⟩ mPre_blind (va_recv hK hP (ci := 5) rfl cM_o) (mPre_call hP hK hN) rfl rfl hl.1 (Nat.le_of_ble_eq_true rfl) dX9_passes_3 ?_
  refine lv_iload_n hx hb dX9_passes_6 rfl (lv_at hl 1 rfl) ?_
  refine lv_iand hx hb dX9_passes_7 ?_
  obtain ⟨r8, hc8, h⟩ := Option.bind_eq_some_iff.mp h
  refine rcS (As := [.int (r3 &&& a1)]) (rest := []) ⟨hx, hb, hml, hown, hts⟩ (c_X9_bits l (r3 &&& a1) hc8) ⟨w_1030, w_1031, w_58, w_1032⟩ hd_X9_bits rfl rfl ⟨(Nat.le_of_ble_eq_true rfl), (Nat.le_of_ble_eq_true rfl)⟩ ⟨Nat.zero_le _, Nat.zero_le _⟩ (fun _ _ _ _ h => h) (fun _ _ _ => trivial) rfl rfl hl.1 (Nat.le_of_ble_eq_true rfl) dX9_passes_8 ?_
  refine lv_iload_n hx hb dX9_passes_11 rfl (lv_at hl 2 rfl) ?_
  refine lv_icmp_gt (tgt := 29) hx hb dX9_passes_12 (by decide) (fun c12 => ?_) (fun c12 => ?_)
  · replace h := if_t c12 h
    refine lv_iconst (v := 0) hx hb dX9_passes_29 (by decide) ?_
    refine lv_istore (lv' := [(4, .int (0 : Int32)), (0, .ref (xB X 0)), (1, .int a1), (2, .int a2), (3, .int a3)]) hx hb dX9_passes_30 hl (by decide) rfl (fun ls hl => ?_)
    refine lv_iconst (v := 0) hx hb dX9_passes_32 (by decide) ?_
    refine lv_istore (lv' := [(5, .int (0 : Int32)), (4, .int (0 : Int32)), (0, .ref (xB X 0)), (1, .int a1), (2, .int a2), (3, .int a3)]) hx hb dX9_passes_33 hl (by decide) rfl (fun ls hl => ?_)
    exact hL35 500 a1 a2 (0 : Int32) (0 : Int32) ls (lv_sub hl [2, 3, 4, 1, 0] rfl) h
  · replace h := if_f c12 h
    refine lv_aload_n hx hb dX9_passes_15 rfl (lv_at hl 0 rfl) ?_
    refine lv_iload_n hx hb dX9_passes_16 rfl (lv_at hl 3 rfl) ?_
    obtain ⟨r17, hc17, h⟩ := Option.bind_eq_some_iff.mp h
    refine rcV (As := [.int a3]) (rest := []) ⟨hx, hb, hml, hown, hts⟩ (c_X9_tooDeep l X mi ml ma mb a3 hc17) ⟨w_1133, w_1135, w_37, w_58, w_1136⟩ hd_X9_tooDeep rfl rfl ⟨(Nat.le_of_ble_eq_true rfl), (Nat.le_of_ble_eq_true rfl)⟩ ⟨Nat.zero_le _, Nat.zero_le _⟩ mPre_blind (va_recv hK hP (ci := 5) rfl cM_o) (mPre_call hP hK hN) rfl rfl hl.1 (Nat.le_of_ble_eq_true rfl) dX9_passes_17 ?_
    refine lv_iload_n hx hb dX9_passes_20 rfl (lv_at hl 1 rfl) ?_
    refine lv_iand hx hb dX9_passes_21 ?_
    refine lv_if_ne (tgt := 29) hx hb dX9_passes_22 (by decide) (fun c22 => ?_) (fun c22 => ?_)
    · replace h := if_f c22 h
      refine lv_iconst (v := 0) hx hb dX9_passes_29 (by decide) ?_
      refine lv_istore (lv' := [(4, .int (0 : Int32)), (0, .ref (xB X 0)), (1, .int a1), (2, .int a2), (3, .int a3)]) hx hb dX9_passes_30 hl (by decide) rfl (fun ls hl => ?_)
      refine lv_iconst (v := 0) hx hb dX9_passes_32 (by decide) ?_
      refine lv_istore (lv' := [(5, .int (0 : Int32)), (4, .int (0 : Int32)), (0, .ref (xB X 0)), (1, .int a1), (2, .int a2), (3, .int a3)]) hx hb dX9_passes_33 hl (by decide) rfl (fun ls hl => ?_)
      exact hL35 500 a1 a2 (0 : Int32) (0 : Int32) ls (lv_sub hl [2, 3, 4, 1, 0] rfl) h
    · replace h := if_t c22 h
      refine lv_iconst (v := 1) hx hb dX9_passes_25 (by decide) ?_
      refine lv_goto (tgt := 30) hx hb dX9_passes_26 (by decide) ?_
      refine lv_istore (lv' := [(4, .int (1 : Int32)), (0, .ref (xB X 0)), (1, .int a1), (2, .int a2), (3, .int a3)]) hx hb dX9_passes_30 hl (by decide) rfl (fun ls hl => ?_)
      refine lv_iconst (v := 0) hx hb dX9_passes_32 (by decide) ?_
      refine lv_istore (lv' := [(5, .int (0 : Int32)), (4, .int (1 : Int32)), (0, .ref (xB X 0)), (1, .int a1), (2, .int a2), (3, .int a3)]) hx hb dX9_passes_33 hl (by decide) rfl (fun ls hl => ?_)
      exact hL35 500 a1 a2 (1 : Int32) (0 : Int32) ls (lv_sub hl [2, 3, 4, 1, 0] rfl) h
set_option maxRecDepth 100000 in
set_option maxHeartbeats 4000000 in
theorem c_X9_part (l : Launch) (X : gX) (mi : Nat → Int32) (ml : Nat → Int64) (ma : Nat → Nat → Int32) (mb : Nat → Nat → Int64) (a1 : Int32) (a2 : Int32) {o0 : Int32} {o_mi : Nat → Int32} (h : X9_part ma a1 a2 mi = some (o0, o_mi)) : Met l yX9_part (Cond.code yX9_part cX9_part 7 (some .int) :: gT) { frames := 3, cells := 0, slots := 0, locals := 71 } (va_Pc [.ref (xB X 0), .int a1, .int a2] (mPre X mi ml ma mb)) (wQ (some (.int o0)) (fun H => va_P X.1 vwCl (cM X o_mi ml ma mb) H) (mA X)) 0 0 (mA X) := by
  refine Met.ofW (cc := cX9_part) (maxL := 7) (ret := (some .int)) (by decide) rfl ?_
  intro p e s m args below meth c s₁ B hml hv
  obtain ⟨rfl, hP, hK, hN⟩ := hv
  have hx := B.exec
  have hb := B.bytes
  have hr := B.returns
  have hts := atoms_spec (ws := (Cond.code yX9_part cX9_part 7 (some .int) :: gT)) B.pre
  have hT : ∀ w ∈ gT, w.before _ s = true := fun w hw => hts w (List.mem_cons_of_mem _ hw)
  have hown : s.vm.findClass RX9 = some m.cls := findClass_of_methodNamed B.named
  have hlocks := B.notSynchronized
  have hS : va_S (mA X) s.heap s.heap [] := va_S.rf
  have hl := lv_entry ([.ref (xB X 0), .int a1, .int a2]) (n := 7) (Nat.le_of_ble_eq_true rfl)
  rw [lg_entry_eq]
  generalize (lg_sl ([.ref (xB X 0), .int a1, .int a2]) ++ List.replicate (7 - (lg_sl ([.ref (xB X 0), .int a1, .int a2])).length) Slot.unset).toArray = ls at hl ⊢
  have hl : lv_has ls 7 [(0, .ref (xB X 0)), (1, .int a1), (2, .int a2)] := hl
  have hL21 : ∀ (n21 : Nat) (v1 : Int32) (v2 : Int32) (v3 : Int32) (v4 : Int32) (v5 : Int32) (mi : Nat → Int32) (H : Heap) (locs : List Loc) (ls : Array Slot), lv_has ls 7 [(0, .ref (xB X 0)), (1, .int v1), (2, .int v2), (3, .int v3), (4, .int v4), (5, .int v5)] → va_P X.1 vwCl (cM X mi ml ma mb) H → va_S (mA X) s.heap H locs → X9_part_21 ma n21 v1 v2 v3 v4 v5 mi = some (o0, o_mi) → W p l e (headSpec (Cond.code yX9_part cX9_part 7 (some .int) :: gT) { frames := 3, cells := 0, slots := 0, locals := 71 }).room s m [.ref (xB X 0), .int a1, .int a2].toArray below meth c H locs 0 0 (MQ below (wQ (some (.int o0)) (fun H => va_P X.1 vwCl (cM X o_mi ml ma mb) H) (mA X)) [.ref (xB X 0), .int a1, .int a2].toArray s 0 0 (mA X)) (F0 m 21 ls []) := by
    intro n21
    induction n21 with
    | zero =>
      intro v1 v2 v3 v4 v5 mi H locs ls hl hP hS h
      rw [X9_part_21] at h
      cases h
    | succ n21 ih21 =>
      intro v1 v2 v3 v4 v5 mi H locs ls hl hP hS h
      rw [X9_part_21] at h
      have hL79 : ∀ (v1 : Int32) (v2 : Int32) (v3 : Int32) (v4 : Int32) (v5 : Int32) (t0 : Int32) (mi : Nat → Int32) (H : Heap) (locs : List Loc) (ls : Array Slot), lv_has ls 7 [(0, .ref (xB X 0)), (1, .int v1), (2, .int v2), (3, .int v3), (4, .int v4), (5, .int v5)] → va_P X.1 vwCl (cM X mi ml ma mb) H → va_S (mA X) s.heap H locs → X9_part_79 ma (X9_part_21 ma n21) v1 v2 v3 v4 v5 t0 mi = some (o0, o_mi) → W p l e (headSpec (Cond.code yX9_part cX9_part 7 (some .int) :: gT) { frames := 3, cells := 0, slots := 0, locals := 71 }).room s m [.ref (xB X 0), .int a1, .int a2].toArray below meth c H locs 0 0 (MQ below (wQ (some (.int o0)) (fun H => va_P X.1 vwCl (cM X o_mi ml ma mb) H) (mA X)) [.ref (xB X 0), .int a1, .int a2].toArray s 0 0 (mA X)) (F0 m 79 ls [.int t0]) := by
        intro v1 v2 v3 v4 v5 t0 mi H locs ls hl hP hS h
        rw [X9_part_79] at h
        refine lv_istore (lv' := [(6, .int t0), (0, .ref (xB X 0)), (1, .int v1), (2, .int v2), (3, .int v3), (4, .int v4), (5, .int v5)]) hx hb dX9_part_79 hl (by decide) rfl (fun ls hl => ?_)
        refine lv_iload hx hb dX9_part_81 (lv_at hl 0 rfl) ?_
        refine lv_if_eq (tgt := 106) hx hb dX9_part_83 (by decide) (fun c83 => ?_) (fun c83 => ?_)
        · replace h := if_t c83 h
          refine lv_iload hx hb dX9_part_106 (lv_at hl 5 rfl) ?_
          refine lv_istore (lv' := [(4, .int v4), (6, .int t0), (0, .ref (xB X 0)), (1, .int v1), (2, .int v2), (3, .int v3), (5, .int v5)]) hx hb dX9_part_108 hl (by decide) rfl (fun ls hl => ?_)
          refine lv_iinc (v := (v5 + (1 : Int32))) (lv' := [(5, .int (v5 + (1 : Int32))), (4, .int v4), (6, .int t0), (0, .ref (xB X 0)), (1, .int v1), (2, .int v2), (3, .int v3)]) hx hb dX9_part_110 hl (k := 6) rfl rfl (by decide) rfl (fun ls hl => ?_)
          refine lv_goto (tgt := 21) hx hb dX9_part_113 (by decide) ?_
          exact ih21 v1 v2 v3 v4 (v5 + (1 : Int32)) mi _ _ ls (lv_sub hl [3, 4, 5, 6, 1, 0] rfl) hP hS h
        · replace h := if_f c83 h
          refine lv_aload_n hx hb dX9_part_86 rfl (lv_at hl 1 rfl) ?_
          refine lv_aload_n hx hb dX9_part_87 rfl (lv_at hl 1 rfl) ?_
          refine lv_iload hx hb dX9_part_88 (lv_at hl 6 rfl) ?_
          obtain ⟨r90, hc90, h⟩ := Option.bind_eq_some_iff.mp h
          refine rcV (As := [.int v5]) (rest := [.ref (xB X 0)]) ⟨hx, hb, hml, hown, hts⟩ (c_X9_leftBy l X mi ml ma mb v5 hc90) ⟨w_1144, w_1146, w_38, w_58, w_1147⟩ hd_X9_leftBy rfl rfl ⟨(Nat.le_of_ble_eq_true rfl), (Nat.le_of_ble_eq_true rfl)⟩ ⟨Nat.zero_le _, Nat.zero_le _⟩ mPre_blind (va_recv hK hP (ci := 5) rfl cM_o) (mPre_call hP hK hN) rfl rfl hl.1 (Nat.le_of_ble_eq_true rfl) dX9_part_90 ?_
          refine lv_iload_n hx hb dX9_part_93 rfl (lv_at hl 2 rfl) ?_
          refine lv_iload_n hx hb dX9_part_94 rfl (lv_at hl 3 rfl) ?_
          obtain ⟨r95, hc95, h⟩ := Option.bind_eq_some_iff.mp h
          refine rcV (As := [.int r90, .int v1, .int v2]) (rest := []) ⟨hx, hb, hml, hown, hts⟩ (c_X9_passes l X mi ml ma mb r90 v1 v2 hc95) ⟨w_1148, w_1150, w_39, w_58, w_1151⟩ hd_X9_passes rfl rfl ⟨(Nat.le_of_ble_eq_true rfl), (Nat.le_of_ble_eq_true rfl)⟩ ⟨Nat.zero_le _, Nat.zero_le _⟩ mPre_blind (va_recv hK hP (ci := 5) rfl cM_o) (mPre_call hP hK hN) rfl rfl hl.1 (Nat.le_of_ble_eq_true rfl) dX9_part_95 ?_
          refine lv_if_eq (tgt := 106) hx hb dX9_part_98 (by decide) (fun c98 => ?_) (fun c98 => ?_)
          · replace h := if_t c98 h
            refine lv_iload hx hb dX9_part_106 (lv_at hl 5 rfl) ?_
            refine lv_istore (lv' := [(4, .int v4), (6, .int t0), (0, .ref (xB X 0)), (1, .int v1), (2, .int v2), (3, .int v3), (5, .int v5)]) hx hb dX9_part_108 hl (by decide) rfl (fun ls hl => ?_)
            refine lv_iinc (v := (v5 + (1 : Int32))) (lv' := [(5, .int (v5 + (1 : Int32))), (4, .int v4), (6, .int t0), (0, .ref (xB X 0)), (1, .int v1), (2, .int v2), (3, .int v3)]) hx hb dX9_part_110 hl (k := 6) rfl rfl (by decide) rfl (fun ls hl => ?_)
            refine lv_goto (tgt := 21) hx hb dX9_part_113 (by decide) ?_
            exact ih21 v1 v2 v3 v4 (v5 + (1 : Int32)) mi _ _ ls (lv_sub hl [3, 4, 5, 6, 1, 0] rfl) hP hS h
          · replace h := if_f c98 h
            refine lv_iload hx hb dX9_part_101 (lv_at hl 6 rfl) ?_
            refine lv_goto (tgt := 108) hx hb dX9_part_103 (by decide) ?_
            refine lv_istore (lv' := [(4, .int v5), (6, .int t0), (0, .ref (xB X 0)), (1, .int v1), (2, .int v2), (3, .int v3), (5, .int v5)]) hx hb dX9_part_108 hl (by decide) rfl (fun ls hl => ?_)
            refine lv_iinc (v := (v5 + (1 : Int32))) (lv' := [(5, .int (v5 + (1 : Int32))), (4, .int v5), (6, .int t0), (0, .ref (xB X 0)), (1, .int v1), (2, .int v2), (3, .int v3)]) hx hb dX9_part_110 hl (k := 6) rfl rfl (by decide) rfl (fun ls hl => ?_)
            refine lv_goto (tgt := 21) hx hb dX9_part_113 (by decide) ?_
            exact ih21 v1 v2 v3 v5 (v5 + (1 : Int32)) mi _ _ ls (lv_sub hl [3, 4, 5, 6, 1, 0] rfl) hP hS h
      refine lv_iload hx hb dX9_part_21 (lv_at hl 5 rfl) ?_
      refine lv_iconst (v := 1) hx hb dX9_part_23 (by decide) ?_
      refine lv_aload_n hx hb dX9_part_24 rfl (lv_at hl 0 rfl) ?_
      refine rg_M_people hx hb hT hown hK hP w_779 dX9_part_25 ?_
      refine lv_ishl hx hb dX9_part_28 ?_
      refine lv_icmp_ge (tgt := 116) hx hb dX9_part_29 (by decide) (fun c29 => ?_) (fun c29 => ?_)
      · replace h := if_t c29 h
        refine lv_aload_n hx hb dX9_part_116 rfl (lv_at hl 0 rfl) ?_
        refine lv_iload hx hb dX9_part_117 (lv_at hl 4 rfl) ?_
        refine rp_M_asked hx hb hT hown hK hP hN hS w_791 dX9_part_119 (fun H locs hP hS => ?_)
        generalize emi_119 : va_up mi 3 v4 = mi_119 at hP
        replace h := lt_g h emi_119
        refine lv_iload hx hb dX9_part_122 (lv_at hl 4 rfl) ?_
        obtain ⟨r124, hc124, h⟩ := Option.bind_eq_some_iff.mp h
        refine rcS (As := [.int v4]) (rest := []) ⟨hx, hb, hml, hown, hts⟩ (c_X9_bits l v4 hc124) ⟨w_1030, w_1031, w_58, w_1032⟩ hd_X9_bits rfl rfl ⟨(Nat.le_of_ble_eq_true rfl), (Nat.le_of_ble_eq_true rfl)⟩ ⟨Nat.zero_le _, Nat.zero_le _⟩ (fun _ _ _ _ h => h) (fun _ _ _ => trivial) rfl rfl hl.1 (Nat.le_of_ble_eq_true rfl) dX9_part_124 ?_
        cases h
        exact W.iret hx hb hr (fun t ht _ => ⟨rfl, by rw [ht]; exact hP, hS.F ht⟩) hS.2.2 dX9_part_127
      · replace h := if_f c29 h
        refine lv_iload hx hb dX9_part_32 (lv_at hl 5 rfl) ?_
        refine lv_iload_n hx hb dX9_part_34 rfl (lv_at hl 3 rfl) ?_
        refine lv_iconst (v := -1) hx hb dX9_part_35 (by decide) ?_
        refine lv_ixor hx hb dX9_part_36 ?_
        refine lv_iand hx hb dX9_part_37 ?_
        refine lv_if_ne (tgt := 78) hx hb dX9_part_38 (by decide) (fun c38 => ?_) (fun c38 => ?_)
        · replace h := if_f c38 h
          refine lv_iconst (v := 0) hx hb dX9_part_78 (by decide) ?_
          exact hL79 v1 v2 v3 v4 v5 (0 : Int32) mi _ _ ls (lv_sub hl [0, 1, 2, 3, 4, 5] rfl) hP hS h
        · replace h := if_t c38 h
          refine lv_iload hx hb dX9_part_41 (lv_at hl 5 rfl) ?_
          obtain ⟨r43, hc43, h⟩ := Option.bind_eq_some_iff.mp h
          refine rcS (As := [.int v5]) (rest := []) ⟨hx, hb, hml, hown, hts⟩ (c_X9_bits l v5 hc43) ⟨w_1030, w_1031, w_58, w_1032⟩ hd_X9_bits rfl rfl ⟨(Nat.le_of_ble_eq_true rfl), (Nat.le_of_ble_eq_true rfl)⟩ ⟨Nat.zero_le _, Nat.zero_le _⟩ (fun _ _ _ _ h => h) (fun _ _ _ => trivial) rfl rfl hl.1 (Nat.le_of_ble_eq_true rfl) dX9_part_43 ?_
          refine lv_iload hx hb dX9_part_46 (lv_at hl 4 rfl) ?_
          obtain ⟨r48, hc48, h⟩ := Option.bind_eq_some_iff.mp h
          refine rcS (As := [.int v4]) (rest := [.int r43]) ⟨hx, hb, hml, hown, hts⟩ (c_X9_bits l v4 hc48) ⟨w_1030, w_1031, w_58, w_1032⟩ hd_X9_bits rfl rfl ⟨(Nat.le_of_ble_eq_true rfl), (Nat.le_of_ble_eq_true rfl)⟩ ⟨Nat.zero_le _, Nat.zero_le _⟩ (fun _ _ _ _ h => h) (fun _ _ _ => trivial) rfl rfl hl.1 (Nat.le_of_ble_eq_true rfl) dX9_part_48 ?_
          refine lv_icmp_lt (tgt := 74) hx hb dX9_part_51 (by decide) (fun c51 => ?_) (fun c51 => ?_)
          · replace h := if_t c51 h
            refine lv_iconst (v := 1) hx hb dX9_part_74 (by decide) ?_
            refine lv_goto (tgt := 79) hx hb dX9_part_75 (by decide) ?_
            exact hL79 v1 v2 v3 v4 v5 (1 : Int32) mi _ _ ls (lv_sub hl [0, 1, 2, 3, 4, 5] rfl) hP hS h
          · replace h := if_f c51 h
            refine lv_iload hx hb dX9_part_54 (lv_at hl 5 rfl) ?_
            obtain ⟨r56, hc56, h⟩ := Option.bind_eq_some_iff.mp h
            refine rcS (As := [.int v5]) (rest := []) ⟨hx, hb, hml, hown, hts⟩ (c_X9_bits l v5 hc56) ⟨w_1030, w_1031, w_58, w_1032⟩ hd_X9_bits rfl rfl ⟨(Nat.le_of_ble_eq_true rfl), (Nat.le_of_ble_eq_true rfl)⟩ ⟨Nat.zero_le _, Nat.zero_le _⟩ (fun _ _ _ _ h => h) (fun _ _ _ => trivial) rfl rfl hl.1 (Nat.le_of_ble_eq_true rfl) dX9_part_56 ?_
            refine lv_iload hx hb dX9_part_59 (lv_at hl 4 rfl) ?_
            obtain ⟨r61, hc61, h⟩ := Option.bind_eq_some_iff.mp h
            refine rcS (As := [.int v4]) (rest := [.int r56]) ⟨hx, hb, hml, hown, hts⟩ (c_X9_bits l v4 hc61) ⟨w_1030, w_1031, w_58, w_1032⟩ hd_X9_bits rfl rfl ⟨(Nat.le_of_ble_eq_true rfl), (Nat.le_of_ble_eq_true rfl)⟩ ⟨Nat.zero_le _, Nat.zero_le _⟩ (fun _ _ _ _ h => h) (fun _ _ _ => trivial) rfl rfl hl.1 (Nat.le_of_ble_eq_true rfl) dX9_part_61 ?_
            refine lv_icmp_ne (tgt := 78) hx hb dX9_part_64 (by decide) (fun c64 => ?_) (fun c64 => ?_)
            · replace h := if_f c64 h
              refine lv_iconst (v := 0) hx hb dX9_part_78 (by decide) ?_
              exact hL79 v1 v2 v3 v4 v5 (0 : Int32) mi _ _ ls (lv_sub hl [0, 1, 2, 3, 4, 5] rfl) hP hS h
            · replace h := if_t c64 h
              refine lv_iload hx hb dX9_part_67 (lv_at hl 5 rfl) ?_
              refine lv_iload hx hb dX9_part_69 (lv_at hl 4 rfl) ?_
              refine lv_icmp_ge (tgt := 78) hx hb dX9_part_71 (by decide) (fun c71 => ?_) (fun c71 => ?_)
              · replace h := if_t c71 h
                refine lv_iconst (v := 0) hx hb dX9_part_78 (by decide) ?_
                exact hL79 v1 v2 v3 v4 v5 (0 : Int32) mi _ _ ls (lv_sub hl [0, 1, 2, 3, 4, 5] rfl) hP hS h
              · replace h := if_f c71 h
                refine lv_iconst (v := 1) hx hb dX9_part_74 (by decide) ?_
                refine lv_goto (tgt := 79) hx hb dX9_part_75 (by decide) ?_
                exact hL79 v1 v2 v3 v4 v5 (1 : Int32) mi _ _ ls (lv_sub hl [0, 1, 2, 3, 4, 5] rfl) hP hS h
  rw [X9_part] at h
  refine lv_iload_n hx hb dX9_part_0 rfl (lv_at hl 1 rfl) ?_
  refine lv_iload_n hx hb dX9_part_1 rfl (lv_at hl 2 rfl) ?_
  obtain ⟨r2, hc2, h⟩ := Option.bind_eq_some_iff.mp h
  refine rcS (As := [.int a1, .int a2]) (rest := []) ⟨hx, hb, hml, hown, hts⟩ (c_X9_areNumbers l a1 a2 hc2) ⟨w_1141, w_1142, w_58, w_1143⟩ hd_X9_areNumbers rfl rfl ⟨(Nat.le_of_ble_eq_true rfl), (Nat.le_of_ble_eq_true rfl)⟩ ⟨Nat.zero_le _, Nat.zero_le _⟩ (fun _ _ _ _ h => h) (fun _ _ _ => trivial) rfl rfl hl.1 (Nat.le_of_ble_eq_true rfl) dX9_part_2 ?_
  refine lv_if_ne (tgt := 10) hx hb dX9_part_5 (by decide) (fun c5 => ?_) (fun c5 => ?_)
  · replace h := if_f c5 h
    refine lv_aload_n hx hb dX9_part_10 rfl (lv_at hl 0 rfl) ?_
    obtain ⟨r11, hc11, h⟩ := Option.bind_eq_some_iff.mp h
    refine rcV (As := []) (rest := []) ⟨hx, hb, hml, hown, hts⟩ (c_X9_stuckSet l X mi ml ma mb hc11) ⟨w_1022, w_1024, w_26, w_58, w_1025⟩ hd_X9_stuckSet rfl rfl ⟨(Nat.le_of_ble_eq_true rfl), (Nat.le_of_ble_eq_true rfl)⟩ ⟨Nat.zero_le _, Nat.zero_le _⟩ mPre_blind (va_recv hK hP (ci := 5) rfl cM_o) (mPre_call hP hK hN) rfl rfl hl.1 (Nat.le_of_ble_eq_true rfl) dX9_part_11 ?_
    refine lv_istore_n (lv' := [(3, .int r11), (0, .ref (xB X 0)), (1, .int a1), (2, .int a2)]) hx hb dX9_part_14 rfl hl (by decide) rfl (fun ls hl => ?_)
    refine lv_iload_n hx hb dX9_part_15 rfl (lv_at hl 0 rfl) ?_
    refine lv_istore (lv' := [(4, .int r11), (3, .int r11), (0, .ref (xB X 0)), (1, .int a1), (2, .int a2)]) hx hb dX9_part_16 hl (by decide) rfl (fun ls hl => ?_)
    refine lv_iconst (v := 0) hx hb dX9_part_18 (by decide) ?_
    refine lv_istore (lv' := [(5, .int (0 : Int32)), (4, .int r11), (3, .int r11), (0, .ref (xB X 0)), (1, .int a1), (2, .int a2)]) hx hb dX9_part_19 hl (by decide) rfl (fun ls hl => ?_)
    exact hL21 500 a1 a2 r11 r11 (0 : Int32) mi _ _ ls (lv_sub hl [3, 4, 5, 2, 1, 0] rfl) hP hS h
  · replace h := if_t c5 h
    refine lv_iconst (v := -1) hx hb dX9_part_8 (by decide) ?_
    cases h
    exact W.iret hx hb hr (fun t ht _ => ⟨rfl, by rw [ht]; exact hP, hS.F ht⟩) hS.2.2 dX9_part_9
set_option maxRecDepth 100000 in
set_option maxHeartbeats 4000000 in
theorem c_X9_room (l : Launch) (X : gX) (mi : Nat → Int32) (ml : Nat → Int64) (ma : Nat → Nat → Int32) (mb : Nat → Nat → Int64) (a1 : Int32) (a2 : Int32) {o0 : Int32} (h : X9_room mi ma a1 a2 = some o0) : Met l yX9_room (Cond.code yX9_room cX9_room 5 (some .int) :: gT) { frames := 3, cells := 0, slots := 0, locals := 71 } (va_Pc [.ref (xB X 0), .int a1, .int a2] (mPre X mi ml ma mb)) (k2_QcV (.int o0)) 0 0 (fun _ => False) := by
  refine Met.ofW (cc := cX9_room) (maxL := 5) (ret := (some .int)) (by decide) rfl ?_
  intro p e s m args below meth c s₁ B hml hv
  obtain ⟨rfl, hP, hK, hN⟩ := hv
  have hx := B.exec
  have hb := B.bytes
  have hr := B.returns
  have hts := atoms_spec (ws := (Cond.code yX9_room cX9_room 5 (some .int) :: gT)) B.pre
  have hT : ∀ w ∈ gT, w.before _ s = true := fun w hw => hts w (List.mem_cons_of_mem _ hw)
  have hown : s.vm.findClass RX9 = some m.cls := findClass_of_methodNamed B.named
  have hlocks := B.notSynchronized
  have hS : va_S (mA X) s.heap s.heap [] := va_S.rf
  have hl := lv_entry ([.ref (xB X 0), .int a1, .int a2]) (n := 5) (Nat.le_of_ble_eq_true rfl)
  rw [lg_entry_eq]
  generalize (lg_sl ([.ref (xB X 0), .int a1, .int a2]) ++ List.replicate (5 - (lg_sl ([.ref (xB X 0), .int a1, .int a2])).length) Slot.unset).toArray = ls at hl ⊢
  have hl : lv_has ls 5 [(0, .ref (xB X 0)), (1, .int a1), (2, .int a2)] := hl
  have hL51 : ∀ (n51 : Nat) (v1 : Int32) (v2 : Int32) (v3 : Int32) (v4 : Int32) (ls : Array Slot), lv_has ls 5 [(0, .ref (xB X 0)), (1, .int v1), (2, .int v2), (3, .int v3), (4, .int v4)] → X9_room_51 mi ma n51 v1 v2 v3 v4 = some o0 → W p l e (headSpec (Cond.code yX9_room cX9_room 5 (some .int) :: gT) { frames := 3, cells := 0, slots := 0, locals := 71 }).room s m [.ref (xB X 0), .int a1, .int a2].toArray below meth c s.heap [] 0 0 (MQ below (k2_QcV (.int o0)) [.ref (xB X 0), .int a1, .int a2].toArray s 0 0 (fun _ => False)) (F0 m 51 ls []) := by
    intro n51
    induction n51 with
    | zero =>
      intro v1 v2 v3 v4 ls hl h
      rw [X9_room_51] at h
      cases h
    | succ n51 ih51 =>
      intro v1 v2 v3 v4 ls hl h
      rw [X9_room_51] at h
      refine lv_iload hx hb dX9_room_51 (lv_at hl 4 rfl) ?_
      refine lv_aload_n hx hb dX9_room_53 rfl (lv_at hl 0 rfl) ?_
      refine rg_M_people hx hb hT hown hK hP w_779 dX9_room_54 ?_
      refine lv_icmp_ge (tgt := 106) hx hb dX9_room_57 (by decide) (fun c57 => ?_) (fun c57 => ?_)
      · replace h := if_t c57 h
        refine lv_iload_n hx hb dX9_room_106 rfl (lv_at hl 3 rfl) ?_
        cases h
        exact W.iret hx hb hr (fun t ht _ => ⟨rfl, ht⟩) (fun _ hq => by cases hq) dX9_room_107
      · replace h := if_f c57 h
        refine lv_iload_n hx hb dX9_room_60 rfl (lv_at hl 3 rfl) ?_
        refine lv_aload_n hx hb dX9_room_61 rfl (lv_at hl 0 rfl) ?_
        refine lv_iload hx hb dX9_room_62 (lv_at hl 4 rfl) ?_
        obtain ⟨r64, hc64, h⟩ := Option.bind_eq_some_iff.mp h
        refine rcV (As := [.int v4]) (rest := [.int v3]) ⟨hx, hb, hml, hown, hts⟩ (c_X9_isStuck l X mi ml ma mb v4 hc64) ⟨w_1026, w_1028, w_27, w_58, w_1029⟩ hd_X9_isStuck rfl rfl ⟨(Nat.le_of_ble_eq_true rfl), (Nat.le_of_ble_eq_true rfl)⟩ ⟨Nat.zero_le _, Nat.zero_le _⟩ mPre_blind (va_recv hK hP (ci := 5) rfl cM_o) (mPre_call hP hK hN) rfl rfl hl.1 (Nat.le_of_ble_eq_true rfl) dX9_room_64 ?_
        refine lv_if_eq (tgt := 97) hx hb dX9_room_67 (by decide) (fun c67 => ?_) (fun c67 => ?_)
        · replace h := if_t c67 h
          refine lv_iconst (v := 0) hx hb dX9_room_97 (by decide) ?_
          refine lv_iadd hx hb dX9_room_98 ?_
          refine lv_istore_n (lv' := [(3, .int (v3 + (0 : Int32))), (0, .ref (xB X 0)), (1, .int v1), (2, .int v2), (4, .int v4)]) hx hb dX9_room_99 rfl hl (by decide) rfl (fun ls hl => ?_)
          refine lv_iinc (v := (v4 + (1 : Int32))) (lv' := [(4, .int (v4 + (1 : Int32))), (3, .int (v3 + (0 : Int32))), (0, .ref (xB X 0)), (1, .int v1), (2, .int v2)]) hx hb dX9_room_100 hl (k := 4) rfl rfl (by decide) rfl (fun ls hl => ?_)
          refine lv_goto (tgt := 51) hx hb dX9_room_103 (by decide) ?_
          exact ih51 v1 v2 (v3 + (0 : Int32)) (v4 + (1 : Int32)) ls (lv_sub hl [2, 3, 4, 1, 0] rfl) h
        · replace h := if_f c67 h
          refine lv_aload_n hx hb dX9_room_70 rfl (lv_at hl 0 rfl) ?_
          refine lv_iload hx hb dX9_room_71 (lv_at hl 4 rfl) ?_
          obtain ⟨r73, hc73, h⟩ := Option.bind_eq_some_iff.mp h
          refine rcV (As := [.int v4]) (rest := [.int v3]) ⟨hx, hb, hml, hown, hts⟩ (c_X9_hangSet l X mi ml ma mb v4 hc73) ⟨w_1092, w_1094, w_34, w_58, w_1095⟩ hd_X9_hangSet rfl rfl ⟨(Nat.le_of_ble_eq_true rfl), (Nat.le_of_ble_eq_true rfl)⟩ ⟨Nat.zero_le _, Nat.zero_le _⟩ mPre_blind (va_recv hK hP (ci := 5) rfl cM_o) (mPre_call hP hK hN) rfl rfl hl.1 (Nat.le_of_ble_eq_true rfl) dX9_room_73 ?_
          obtain ⟨r76, hc76, h⟩ := Option.bind_eq_some_iff.mp h
          refine rcS (As := [.int r73]) (rest := [.int v3]) ⟨hx, hb, hml, hown, hts⟩ (c_X9_bits l r73 hc76) ⟨w_1030, w_1031, w_58, w_1032⟩ hd_X9_bits rfl rfl ⟨(Nat.le_of_ble_eq_true rfl), (Nat.le_of_ble_eq_true rfl)⟩ ⟨Nat.zero_le _, Nat.zero_le _⟩ (fun _ _ _ _ h => h) (fun _ _ _ => trivial) rfl rfl hl.1 (Nat.le_of_ble_eq_true rfl) dX9_room_76 ?_
          refine lv_iload_n hx hb dX9_room_79 rfl (lv_at hl 1 rfl) ?_
          refine lv_icmp_ge (tgt := 97) hx hb dX9_room_80 (by decide) (fun c80 => ?_) (fun c80 => ?_)
          · replace h := if_t c80 h
            refine lv_iconst (v := 0) hx hb dX9_room_97 (by decide) ?_
            refine lv_iadd hx hb dX9_room_98 ?_
            refine lv_istore_n (lv' := [(3, .int (v3 + (0 : Int32))), (0, .ref (xB X 0)), (1, .int v1), (2, .int v2), (4, .int v4)]) hx hb dX9_room_99 rfl hl (by decide) rfl (fun ls hl => ?_)
            refine lv_iinc (v := (v4 + (1 : Int32))) (lv' := [(4, .int (v4 + (1 : Int32))), (3, .int (v3 + (0 : Int32))), (0, .ref (xB X 0)), (1, .int v1), (2, .int v2)]) hx hb dX9_room_100 hl (k := 4) rfl rfl (by decide) rfl (fun ls hl => ?_)
            refine lv_goto (tgt := 51) hx hb dX9_room_103 (by decide) ?_
            exact ih51 v1 v2 (v3 + (0 : Int32)) (v4 + (1 : Int32)) ls (lv_sub hl [2, 3, 4, 1, 0] rfl) h
          · replace h := if_f c80 h
            refine lv_aload_n hx hb dX9_room_83 rfl (lv_at hl 0 rfl) ?_
            refine lv_iload hx hb dX9_room_84 (lv_at hl 4 rfl) ?_
            obtain ⟨r86, hc86, h⟩ := Option.bind_eq_some_iff.mp h
            refine rcV (As := [.int v4]) (rest := [.int v3]) ⟨hx, hb, hml, hown, hts⟩ (c_X9_depthOf l X mi ml ma mb v4 hc86) ⟨w_998, w_1000, w_21, w_58, w_1001⟩ hd_X9_depthOf rfl rfl ⟨(Nat.le_of_ble_eq_true rfl), (Nat.le_of_ble_eq_true rfl)⟩ ⟨Nat.zero_le _, Nat.zero_le _⟩ mPre_blind (va_recv hK hP (ci := 5) rfl cM_o) (mPre_call hP hK hN) rfl rfl hl.1 (Nat.le_of_ble_eq_true rfl) dX9_room_86 ?_
            refine lv_iload_n hx hb dX9_room_89 rfl (lv_at hl 2 rfl) ?_
            refine lv_icmp_ge (tgt := 97) hx hb dX9_room_90 (by decide) (fun c90 => ?_) (fun c90 => ?_)
            · replace h := if_t c90 h
              refine lv_iconst (v := 0) hx hb dX9_room_97 (by decide) ?_
              refine lv_iadd hx hb dX9_room_98 ?_
              refine lv_istore_n (lv' := [(3, .int (v3 + (0 : Int32))), (0, .ref (xB X 0)), (1, .int v1), (2, .int v2), (4, .int v4)]) hx hb dX9_room_99 rfl hl (by decide) rfl (fun ls hl => ?_)
              refine lv_iinc (v := (v4 + (1 : Int32))) (lv' := [(4, .int (v4 + (1 : Int32))), (3, .int (v3 + (0 : Int32))), (0, .ref (xB X 0)), (1, .int v1), (2, .int v2)]) hx hb dX9_room_100 hl (k := 4) rfl rfl (by decide) rfl (fun ls hl => ?_)
              refine lv_goto (tgt := 51) hx hb dX9_room_103 (by decide) ?_
              exact ih51 v1 v2 (v3 + (0 : Int32)) (v4 + (1 : Int32)) ls (lv_sub hl [2, 3, 4, 1, 0] rfl) h
            · replace h := if_f c90 h
              refine lv_iconst (v := 1) hx hb dX9_room_93 (by decide) ?_
              refine lv_goto (tgt := 98) hx hb dX9_room_94 (by decide) ?_
              refine lv_iadd hx hb dX9_room_98 ?_
              refine lv_istore_n (lv' := [(3, .int (v3 + (1 : Int32))), (0, .ref (xB X 0)), (1, .int v1), (2, .int v2), (4, .int v4)]) hx hb dX9_room_99 rfl hl (by decide) rfl (fun ls hl => ?_)
              refine lv_iinc (v := (v4 + (1 : Int32))) (lv' := [(4, .int (v4 + (1 : Int32))), (3, .int (v3 + (1 : Int32))), (0, .ref (xB X 0)), (1, .int v1), (2, .int v2)]) hx hb dX9_room_100 hl (k := 4) rfl rfl (by decide) rfl (fun ls hl => ?_)
              refine lv_goto (tgt := 51) hx hb dX9_room_103 (by decide) ?_
              exact ih51 v1 v2 (v3 + (1 : Int32)) (v4 + (1 : Int32)) ls (lv_sub hl [2, 3, 4, 1, 0] rfl) h
  rw [X9_room] at h
  refine lv_iload_n hx hb dX9_room_0 rfl (lv_at hl 1 rfl) ?_
  refine lv_iload_n hx hb dX9_room_1 rfl (lv_at hl 2 rfl) ?_
  obtain ⟨r2, hc2, h⟩ := Option.bind_eq_some_iff.mp h
  refine rcS (As := [.int a1, .int a2]) (rest := []) ⟨hx, hb, hml, hown, hts⟩ (c_X9_areNumbers l a1 a2 hc2) ⟨w_1141, w_1142, w_58, w_1143⟩ hd_X9_areNumbers rfl rfl ⟨(Nat.le_of_ble_eq_true rfl), (Nat.le_of_ble_eq_true rfl)⟩ ⟨Nat.zero_le _, Nat.zero_le _⟩ (fun _ _ _ _ h => h) (fun _ _ _ => trivial) rfl rfl hl.1 (Nat.le_of_ble_eq_true rfl) dX9_room_2 ?_
  refine lv_if_ne (tgt := 10) hx hb dX9_room_5 (by decide) (fun c5 => ?_) (fun c5 => ?_)
  · replace h := if_f c5 h
    refine lv_aload_n hx hb dX9_room_10 rfl (lv_at hl 0 rfl) ?_
    refine lv_aload_n hx hb dX9_room_11 rfl (lv_at hl 0 rfl) ?_
    obtain ⟨r12, hc12, h⟩ := Option.bind_eq_some_iff.mp h
    refine rcV (As := []) (rest := [.ref (xB X 0)]) ⟨hx, hb, hml, hown, hts⟩ (c_X9_stuckSet l X mi ml ma mb hc12) ⟨w_1022, w_1024, w_26, w_58, w_1025⟩ hd_X9_stuckSet rfl rfl ⟨(Nat.le_of_ble_eq_true rfl), (Nat.le_of_ble_eq_true rfl)⟩ ⟨Nat.zero_le _, Nat.zero_le _⟩ mPre_blind (va_recv hK hP (ci := 5) rfl cM_o) (mPre_call hP hK hN) rfl rfl hl.1 (Nat.le_of_ble_eq_true rfl) dX9_room_12 ?_
    refine lv_iload_n hx hb dX9_room_15 rfl (lv_at hl 1 rfl) ?_
    refine lv_iload_n hx hb dX9_room_16 rfl (lv_at hl 2 rfl) ?_
    obtain ⟨r17, hc17, h⟩ := Option.bind_eq_some_iff.mp h
    refine rcV (As := [.int r12, .int a1, .int a2]) (rest := []) ⟨hx, hb, hml, hown, hts⟩ (c_X9_passes l X mi ml ma mb r12 a1 a2 hc17) ⟨w_1148, w_1150, w_39, w_58, w_1151⟩ hd_X9_passes rfl rfl ⟨(Nat.le_of_ble_eq_true rfl), (Nat.le_of_ble_eq_true rfl)⟩ ⟨Nat.zero_le _, Nat.zero_le _⟩ mPre_blind (va_recv hK hP (ci := 5) rfl cM_o) (mPre_call hP hK hN) rfl rfl hl.1 (Nat.le_of_ble_eq_true rfl) dX9_room_17 ?_
    refine lv_if_ne (tgt := 25) hx hb dX9_room_20 (by decide) (fun c20 => ?_) (fun c20 => ?_)
    · replace h := if_f c20 h
      refine lv_aload_n hx hb dX9_room_25 rfl (lv_at hl 0 rfl) ?_
      refine lv_bipush (v := 9) hx hb dX9_room_26 (by decide) ?_
      obtain ⟨r28, hc28, h⟩ := Option.bind_eq_some_iff.mp h
      refine rcV (As := [.int (9 : Int32)]) (rest := []) ⟨hx, hb, hml, hown, hts⟩ (c_X9_hangSet l X mi ml ma mb (9 : Int32) hc28) ⟨w_1092, w_1094, w_34, w_58, w_1095⟩ hd_X9_hangSet rfl rfl ⟨(Nat.le_of_ble_eq_true rfl), (Nat.le_of_ble_eq_true rfl)⟩ ⟨Nat.zero_le _, Nat.zero_le _⟩ mPre_blind (va_recv hK hP (ci := 5) rfl cM_o) (mPre_call hP hK hN) rfl rfl hl.1 (Nat.le_of_ble_eq_true rfl) dX9_room_28 ?_
      obtain ⟨r31, hc31, h⟩ := Option.bind_eq_some_iff.mp h
      refine rcS (As := [.int r28]) (rest := []) ⟨hx, hb, hml, hown, hts⟩ (c_X9_bits l r28 hc31) ⟨w_1030, w_1031, w_58, w_1032⟩ hd_X9_bits rfl rfl ⟨(Nat.le_of_ble_eq_true rfl), (Nat.le_of_ble_eq_true rfl)⟩ ⟨Nat.zero_le _, Nat.zero_le _⟩ (fun _ _ _ _ h => h) (fun _ _ _ => trivial) rfl rfl hl.1 (Nat.le_of_ble_eq_true rfl) dX9_room_31 ?_
      refine lv_iload_n hx hb dX9_room_34 rfl (lv_at hl 1 rfl) ?_
      refine lv_icmp_ge (tgt := 46) hx hb dX9_room_35 (by decide) (fun c35 => ?_) (fun c35 => ?_)
      · replace h := if_t c35 h
        refine lv_iconst (v := 0) hx hb dX9_room_46 (by decide) ?_
        refine lv_istore_n (lv' := [(3, .int (0 : Int32)), (0, .ref (xB X 0)), (1, .int a1), (2, .int a2)]) hx hb dX9_room_47 rfl hl (by decide) rfl (fun ls hl => ?_)
        refine lv_iconst (v := 0) hx hb dX9_room_48 (by decide) ?_
        refine lv_istore (lv' := [(4, .int (0 : Int32)), (3, .int (0 : Int32)), (0, .ref (xB X 0)), (1, .int a1), (2, .int a2)]) hx hb dX9_room_49 hl (by decide) rfl (fun ls hl => ?_)
        exact hL51 500 a1 a2 (0 : Int32) (0 : Int32) ls (lv_sub hl [2, 3, 4, 1, 0] rfl) h
      · replace h := if_f c35 h
        refine lv_iload_n hx hb dX9_room_38 rfl (lv_at hl 2 rfl) ?_
        refine lv_if_le (tgt := 46) hx hb dX9_room_39 (by decide) (fun c39 => ?_) (fun c39 => ?_)
        · replace h := if_t c39 h
          refine lv_iconst (v := 0) hx hb dX9_room_46 (by decide) ?_
          refine lv_istore_n (lv' := [(3, .int (0 : Int32)), (0, .ref (xB X 0)), (1, .int a1), (2, .int a2)]) hx hb dX9_room_47 rfl hl (by decide) rfl (fun ls hl => ?_)
          refine lv_iconst (v := 0) hx hb dX9_room_48 (by decide) ?_
          refine lv_istore (lv' := [(4, .int (0 : Int32)), (3, .int (0 : Int32)), (0, .ref (xB X 0)), (1, .int a1), (2, .int a2)]) hx hb dX9_room_49 hl (by decide) rfl (fun ls hl => ?_)
          exact hL51 500 a1 a2 (0 : Int32) (0 : Int32) ls (lv_sub hl [2, 3, 4, 1, 0] rfl) h
        · replace h := if_f c39 h
          refine lv_iconst (v := 1) hx hb dX9_room_42 (by decide) ?_
          refine lv_goto (tgt := 47) hx hb dX9_room_43 (by decide) ?_
          refine lv_istore_n (lv' := [(3, .int (1 : Int32)), (0, .ref (xB X 0)), (1, .int a1), (2, .int a2)]) hx hb dX9_room_47 rfl hl (by decide) rfl (fun ls hl => ?_)
          refine lv_iconst (v := 0) hx hb dX9_room_48 (by decide) ?_
          refine lv_istore (lv' := [(4, .int (0 : Int32)), (3, .int (1 : Int32)), (0, .ref (xB X 0)), (1, .int a1), (2, .int a2)]) hx hb dX9_room_49 hl (by decide) rfl (fun ls hl => ?_)
          exact hL51 500 a1 a2 (1 : Int32) (0 : Int32) ls (lv_sub hl [2, 3, 4, 1, 0] rfl) h
    · replace h := if_t c20 h
      refine lv_iconst (v := 0) hx hb dX9_room_23 (by decide) ?_
      cases h
      exact W.iret hx hb hr (fun t ht _ => ⟨rfl, ht⟩) (fun _ hq => by cases hq) dX9_room_24
  · replace h := if_t c5 h
    refine lv_iconst (v := -1) hx hb dX9_room_8 (by decide) ?_
    cases h
    exact W.iret hx hb hr (fun t ht _ => ⟨rfl, ht⟩) (fun _ hq => by cases hq) dX9_room_9
set_option maxRecDepth 100000 in
set_option maxHeartbeats 4000000 in
theorem c_X9_freeOthers (l : Launch) (X : gX) (mi : Nat → Int32) (ml : Nat → Int64) (ma : Nat → Nat → Int32) (mb : Nat → Nat → Int64) (a1 : Int32) {o0 : Int32} (h : X9_freeOthers mi ma a1 = some o0) : Met l yX9_freeOthers (Cond.code yX9_freeOthers cX9_freeOthers 4 (some .int) :: gT) { frames := 1, cells := 0, slots := 0, locals := 21 } (va_Pc [.ref (xB X 0), .int a1] (mPre X mi ml ma mb)) (k2_QcV (.int o0)) 0 0 (fun _ => False) := by
  refine Met.ofW (cc := cX9_freeOthers) (maxL := 4) (ret := (some .int)) (by decide) rfl ?_
  intro p e s m args below meth c s₁ B hml hv
  obtain ⟨rfl, hP, hK, hN⟩ := hv
  have hx := B.exec
  have hb := B.bytes
  have hr := B.returns
  have hts := atoms_spec (ws := (Cond.code yX9_freeOthers cX9_freeOthers 4 (some .int) :: gT)) B.pre
  have hT : ∀ w ∈ gT, w.before _ s = true := fun w hw => hts w (List.mem_cons_of_mem _ hw)
  have hown : s.vm.findClass RX9 = some m.cls := findClass_of_methodNamed B.named
  have hlocks := B.notSynchronized
  have hS : va_S (mA X) s.heap s.heap [] := va_S.rf
  have hl := lv_entry ([.ref (xB X 0), .int a1]) (n := 4) (Nat.le_of_ble_eq_true rfl)
  rw [lg_entry_eq]
  generalize (lg_sl ([.ref (xB X 0), .int a1]) ++ List.replicate (4 - (lg_sl ([.ref (xB X 0), .int a1])).length) Slot.unset).toArray = ls at hl ⊢
  have hl : lv_has ls 4 [(0, .ref (xB X 0)), (1, .int a1)] := hl
  have hL4 : ∀ (n4 : Nat) (v1 : Int32) (v2 : Int32) (v3 : Int32) (ls : Array Slot), lv_has ls 4 [(0, .ref (xB X 0)), (1, .int v1), (2, .int v2), (3, .int v3)] → X9_freeOthers_4 mi ma n4 v1 v2 v3 = some o0 → W p l e (headSpec (Cond.code yX9_freeOthers cX9_freeOthers 4 (some .int) :: gT) { frames := 1, cells := 0, slots := 0, locals := 21 }).room s m [.ref (xB X 0), .int a1].toArray below meth c s.heap [] 0 0 (MQ below (k2_QcV (.int o0)) [.ref (xB X 0), .int a1].toArray s 0 0 (fun _ => False)) (F0 m 4 ls []) := by
    intro n4
    induction n4 with
    | zero =>
      intro v1 v2 v3 ls hl h
      rw [X9_freeOthers_4] at h
      cases h
    | succ n4 ih4 =>
      intro v1 v2 v3 ls hl h
      rw [X9_freeOthers_4] at h
      refine lv_iload_n hx hb dX9_freeOthers_4 rfl (lv_at hl 3 rfl) ?_
      refine lv_aload_n hx hb dX9_freeOthers_5 rfl (lv_at hl 0 rfl) ?_
      refine rg_M_people hx hb hT hown hK hP w_779 dX9_freeOthers_6 ?_
      refine lv_icmp_ge (tgt := 39) hx hb dX9_freeOthers_9 (by decide) (fun c9 => ?_) (fun c9 => ?_)
      · replace h := if_t c9 h
        refine lv_iload_n hx hb dX9_freeOthers_39 rfl (lv_at hl 2 rfl) ?_
        cases h
        exact W.iret hx hb hr (fun t ht _ => ⟨rfl, ht⟩) (fun _ hq => by cases hq) dX9_freeOthers_40
      · replace h := if_f c9 h
        refine lv_iload_n hx hb dX9_freeOthers_12 rfl (lv_at hl 2 rfl) ?_
        refine lv_iload_n hx hb dX9_freeOthers_13 rfl (lv_at hl 3 rfl) ?_
        refine lv_iload_n hx hb dX9_freeOthers_14 rfl (lv_at hl 1 rfl) ?_
        refine lv_icmp_eq (tgt := 30) hx hb dX9_freeOthers_15 (by decide) (fun c15 => ?_) (fun c15 => ?_)
        · replace h := if_t c15 h
          refine lv_iconst (v := 0) hx hb dX9_freeOthers_30 (by decide) ?_
          refine lv_iadd hx hb dX9_freeOthers_31 ?_
          refine lv_istore_n (lv' := [(2, .int (v2 + (0 : Int32))), (0, .ref (xB X 0)), (1, .int v1), (3, .int v3)]) hx hb dX9_freeOthers_32 rfl hl (by decide) rfl (fun ls hl => ?_)
          refine lv_iinc (v := (v3 + (1 : Int32))) (lv' := [(3, .int (v3 + (1 : Int32))), (2, .int (v2 + (0 : Int32))), (0, .ref (xB X 0)), (1, .int v1)]) hx hb dX9_freeOthers_33 hl (k := 3) rfl rfl (by decide) rfl (fun ls hl => ?_)
          refine lv_goto (tgt := 4) hx hb dX9_freeOthers_36 (by decide) ?_
          exact ih4 v1 (v2 + (0 : Int32)) (v3 + (1 : Int32)) ls (lv_sub hl [2, 3, 1, 0] rfl) h
        · replace h := if_f c15 h
          refine lv_aload_n hx hb dX9_freeOthers_18 rfl (lv_at hl 0 rfl) ?_
          refine lv_iload_n hx hb dX9_freeOthers_19 rfl (lv_at hl 3 rfl) ?_
          obtain ⟨r20, hc20, h⟩ := Option.bind_eq_some_iff.mp h
          refine rcV (As := [.int v3]) (rest := [.int v2]) ⟨hx, hb, hml, hown, hts⟩ (c_X9_isStuck l X mi ml ma mb v3 hc20) ⟨w_1026, w_1028, w_27, w_58, w_1029⟩ hd_X9_isStuck rfl rfl ⟨(Nat.le_of_ble_eq_true rfl), (Nat.le_of_ble_eq_true rfl)⟩ ⟨Nat.zero_le _, Nat.zero_le _⟩ mPre_blind (va_recv hK hP (ci := 5) rfl cM_o) (mPre_call hP hK hN) rfl rfl hl.1 (Nat.le_of_ble_eq_true rfl) dX9_freeOthers_20 ?_
          refine lv_if_ne (tgt := 30) hx hb dX9_freeOthers_23 (by decide) (fun c23 => ?_) (fun c23 => ?_)
          · replace h := if_f c23 h
            refine lv_iconst (v := 0) hx hb dX9_freeOthers_30 (by decide) ?_
            refine lv_iadd hx hb dX9_freeOthers_31 ?_
            refine lv_istore_n (lv' := [(2, .int (v2 + (0 : Int32))), (0, .ref (xB X 0)), (1, .int v1), (3, .int v3)]) hx hb dX9_freeOthers_32 rfl hl (by decide) rfl (fun ls hl => ?_)
            refine lv_iinc (v := (v3 + (1 : Int32))) (lv' := [(3, .int (v3 + (1 : Int32))), (2, .int (v2 + (0 : Int32))), (0, .ref (xB X 0)), (1, .int v1)]) hx hb dX9_freeOthers_33 hl (k := 3) rfl rfl (by decide) rfl (fun ls hl => ?_)
            refine lv_goto (tgt := 4) hx hb dX9_freeOthers_36 (by decide) ?_
            exact ih4 v1 (v2 + (0 : Int32)) (v3 + (1 : Int32)) ls (lv_sub hl [2, 3, 1, 0] rfl) h
          · replace h := if_t c23 h
            refine lv_iconst (v := 1) hx hb dX9_freeOthers_26 (by decide) ?_
            refine lv_goto (tgt := 31) hx hb dX9_freeOthers_27 (by decide) ?_
            refine lv_iadd hx hb dX9_freeOthers_31 ?_
            refine lv_istore_n (lv' := [(2, .int (v2 + (1 : Int32))), (0, .ref (xB X 0)), (1, .int v1), (3, .int v3)]) hx hb dX9_freeOthers_32 rfl hl (by decide) rfl (fun ls hl => ?_)
            refine lv_iinc (v := (v3 + (1 : Int32))) (lv' := [(3, .int (v3 + (1 : Int32))), (2, .int (v2 + (1 : Int32))), (0, .ref (xB X 0)), (1, .int v1)]) hx hb dX9_freeOthers_33 hl (k := 3) rfl rfl (by decide) rfl (fun ls hl => ?_)
            refine lv_goto (tgt := 4) hx hb dX9_freeOthers_36 (by decide) ?_
            exact ih4 v1 (v2 + (1 : Int32)) (v3 + (1 : Int32)) ls (lv_sub hl [2, 3, 1, 0] rfl) h
  rw [X9_freeOthers] at h
  refine lv_iconst (v := 0) hx hb dX9_freeOthers_0 (by decide) ?_
  refine lv_istore_n (lv' := [(2, .int (0 : Int32)), (0, .ref (xB X 0)), (1, .int a1)]) hx hb dX9_freeOthers_1 rfl hl (by decide) rfl (fun ls hl => ?_)
  refine lv_iconst (v := 0) hx hb dX9_freeOthers_2 (by decide) ?_
  refine lv_istore_n (lv' := [(3, .int (0 : Int32)), (2, .int (0 : Int32)), (0, .ref (xB X 0)), (1, .int a1)]) hx hb dX9_freeOthers_3 rfl hl (by decide) rfl (fun ls hl => ?_)
  exact hL4 500 a1 (0 : Int32) (0 : Int32) ls (lv_sub hl [2, 3, 1, 0] rfl) h
set_option maxRecDepth 100000 in
set_option maxHeartbeats 4000000 in
theorem c_X9_place (l : Launch) (X : gX) (mi : Nat → Int32) (ml : Nat → Int64) (ma : Nat → Nat → Int32) (mb : Nat → Nat → Int64) (a1 : Int32) (a2 : Int32) {o0 : Int32} (h : X9_place mi ma a1 a2 = some o0) : Met l yX9_place (Cond.code yX9_place cX9_place 4 (some .int) :: gT) { frames := 2, cells := 0, slots := 0, locals := 46 } (va_Pc [.ref (xB X 0), .int a1, .int a2] (mPre X mi ml ma mb)) (k2_QcV (.int o0)) 0 0 (fun _ => False) := by
  refine Met.ofW (cc := cX9_place) (maxL := 4) (ret := (some .int)) (by decide) rfl ?_
  intro p e s m args below meth c s₁ B hml hv
  obtain ⟨rfl, hP, hK, hN⟩ := hv
  have hx := B.exec
  have hb := B.bytes
  have hr := B.returns
  have hts := atoms_spec (ws := (Cond.code yX9_place cX9_place 4 (some .int) :: gT)) B.pre
  have hT : ∀ w ∈ gT, w.before _ s = true := fun w hw => hts w (List.mem_cons_of_mem _ hw)
  have hown : s.vm.findClass RX9 = some m.cls := findClass_of_methodNamed B.named
  have hlocks := B.notSynchronized
  have hS : va_S (mA X) s.heap s.heap [] := va_S.rf
  have hl := lv_entry ([.ref (xB X 0), .int a1, .int a2]) (n := 4) (Nat.le_of_ble_eq_true rfl)
  rw [lg_entry_eq]
  generalize (lg_sl ([.ref (xB X 0), .int a1, .int a2]) ++ List.replicate (4 - (lg_sl ([.ref (xB X 0), .int a1, .int a2])).length) Slot.unset).toArray = ls at hl ⊢
  have hl : lv_has ls 4 [(0, .ref (xB X 0)), (1, .int a1), (2, .int a2)] := hl
  rw [X9_place] at h
  refine lv_aload_n hx hb dX9_place_0 rfl (lv_at hl 0 rfl) ?_
  refine lv_iload_n hx hb dX9_place_1 rfl (lv_at hl 1 rfl) ?_
  obtain ⟨r2, hc2, h⟩ := Option.bind_eq_some_iff.mp h
  refine rcV (As := [.int a1]) (rest := []) ⟨hx, hb, hml, hown, hts⟩ (c_X9_isOne l X mi ml ma mb a1 hc2) ⟨w_986, w_988, w_18, w_58, w_989⟩ hd_X9_isOne rfl rfl ⟨(Nat.le_of_ble_eq_true rfl), (Nat.le_of_ble_eq_true rfl)⟩ ⟨Nat.zero_le _, Nat.zero_le _⟩ mPre_blind (va_recv hK hP (ci := 5) rfl cM_o) (mPre_call hP hK hN) rfl rfl hl.1 (Nat.le_of_ble_eq_true rfl) dX9_place_2 ?_
  refine lv_if_eq (tgt := 20) hx hb dX9_place_5 (by decide) (fun c5 => ?_) (fun c5 => ?_)
  · replace h := if_t c5 h
    refine lv_iconst (v := -1) hx hb dX9_place_20 (by decide) ?_
    cases h
    exact W.iret hx hb hr (fun t ht _ => ⟨rfl, ht⟩) (fun _ hq => by cases hq) dX9_place_21
  · replace h := if_f c5 h
    refine lv_iload_n hx hb dX9_place_8 rfl (lv_at hl 2 rfl) ?_
    refine lv_i2l hx hb dX9_place_9 rfl ?_
    refine lv_lconst (v := 1) hx hb dX9_place_10 (by decide) ?_
    refine lv_ldc2 (v := 7) hx hb hown (hT _ w_1124) dX9_place_11 ?_
    obtain ⟨r14, hc14, h⟩ := Option.bind_eq_some_iff.mp h
    refine rcS (As := [.long a2.toInt64, .long (1 : Int64), .long (7 : Int64)]) (rest := []) ⟨hx, hb, hml, hown, hts⟩ (c_X9_in l a2.toInt64 (1 : Int64) (7 : Int64) hc14) ⟨w_912, w_913, w_58, w_914⟩ hd_X9_in rfl rfl ⟨(Nat.le_of_ble_eq_true rfl), (Nat.le_of_ble_eq_true rfl)⟩ ⟨Nat.zero_le _, Nat.zero_le _⟩ (fun _ _ _ _ h => h) (fun _ _ _ => trivial) rfl rfl hl.1 (Nat.le_of_ble_eq_true rfl) dX9_place_14 ?_
    refine lv_if_ne (tgt := 22) hx hb dX9_place_17 (by decide) (fun c17 => ?_) (fun c17 => ?_)
    · replace h := if_f c17 h
      refine lv_aload_n hx hb dX9_place_22 rfl (lv_at hl 0 rfl) ?_
      refine lv_iload_n hx hb dX9_place_23 rfl (lv_at hl 1 rfl) ?_
      obtain ⟨r24, hc24, h⟩ := Option.bind_eq_some_iff.mp h
      refine rcV (As := [.int a1]) (rest := []) ⟨hx, hb, hml, hown, hts⟩ (c_X9_isStuck l X mi ml ma mb a1 hc24) ⟨w_1026, w_1028, w_27, w_58, w_1029⟩ hd_X9_isStuck rfl rfl ⟨(Nat.le_of_ble_eq_true rfl), (Nat.le_of_ble_eq_true rfl)⟩ ⟨Nat.zero_le _, Nat.zero_le _⟩ mPre_blind (va_recv hK hP (ci := 5) rfl cM_o) (mPre_call hP hK hN) rfl rfl hl.1 (Nat.le_of_ble_eq_true rfl) dX9_place_24 ?_
      refine lv_if_eq (tgt := 33) hx hb dX9_place_27 (by decide) (fun c27 => ?_) (fun c27 => ?_)
      · replace h := if_t c27 h
        refine lv_iload_n hx hb dX9_place_33 rfl (lv_at hl 2 rfl) ?_
        refine lv_iconst (v := 1) hx hb dX9_place_34 (by decide) ?_
        refine lv_isub hx hb dX9_place_35 ?_
        refine lv_aload_n hx hb dX9_place_36 rfl (lv_at hl 0 rfl) ?_
        obtain ⟨r37, hc37, h⟩ := Option.bind_eq_some_iff.mp h
        refine rcV (As := []) (rest := [.int (a2 - (1 : Int32))]) ⟨hx, hb, hml, hown, hts⟩ (c_X9_deepest l X mi ml ma mb hc37) ⟨w_1018, w_1020, w_25, w_58, w_1021⟩ hd_X9_deepest rfl rfl ⟨(Nat.le_of_ble_eq_true rfl), (Nat.le_of_ble_eq_true rfl)⟩ ⟨Nat.zero_le _, Nat.zero_le _⟩ mPre_blind (va_recv hK hP (ci := 5) rfl cM_o) (mPre_call hP hK hN) rfl rfl hl.1 (Nat.le_of_ble_eq_true rfl) dX9_place_37 ?_
        refine lv_isub hx hb dX9_place_40 ?_
        refine lv_istore_n (lv' := [(3, .int ((a2 - (1 : Int32)) - r37)), (0, .ref (xB X 0)), (1, .int a1), (2, .int a2)]) hx hb dX9_place_41 rfl hl (by decide) rfl (fun ls hl => ?_)
        refine lv_iload_n hx hb dX9_place_42 rfl (lv_at hl 0 rfl) ?_
        refine lv_if_ge (tgt := 50) hx hb dX9_place_43 (by decide) (fun c43 => ?_) (fun c43 => ?_)
        · replace h := if_t c43 h
          refine lv_iload_n hx hb dX9_place_50 rfl (lv_at hl 0 rfl) ?_
          refine lv_istore_n (lv' := [(3, .int ((a2 - (1 : Int32)) - r37)), (0, .ref (xB X 0)), (1, .int a1), (2, .int a2)]) hx hb dX9_place_51 rfl hl (by decide) rfl (fun ls hl => ?_)
          refine lv_iload_n hx hb dX9_place_52 rfl (lv_at hl 0 rfl) ?_
          refine lv_aload_n hx hb dX9_place_53 rfl (lv_at hl 1 rfl) ?_
          refine lv_iload_n hx hb dX9_place_54 rfl (lv_at hl 2 rfl) ?_
          obtain ⟨r55, hc55, h⟩ := Option.bind_eq_some_iff.mp h
          refine rcV (As := [.int a1]) (rest := [.int ((a2 - (1 : Int32)) - r37)]) ⟨hx, hb, hml, hown, hts⟩ (c_X9_freeOthers l X mi ml ma mb a1 hc55) ⟨w_1160, w_1162, w_40, w_58, w_1163⟩ hd_X9_freeOthers rfl rfl ⟨(Nat.le_of_ble_eq_true rfl), (Nat.le_of_ble_eq_true rfl)⟩ ⟨Nat.zero_le _, Nat.zero_le _⟩ mPre_blind (va_recv hK hP (ci := 5) rfl cM_o) (mPre_call hP hK hN) rfl rfl hl.1 (Nat.le_of_ble_eq_true rfl) dX9_place_55 ?_
          refine lv_icmp_le (tgt := 66) hx hb dX9_place_58 (by decide) (fun c58 => ?_) (fun c58 => ?_)
          · replace h := if_t c58 h
            refine lv_iload_n hx hb dX9_place_66 rfl (lv_at hl 0 rfl) ?_
            refine lv_iconst (v := 1) hx hb dX9_place_67 (by decide) ?_
            refine lv_iadd hx hb dX9_place_68 ?_
            cases h
            exact W.iret hx hb hr (fun t ht _ => ⟨rfl, ht⟩) (fun _ hq => by cases hq) dX9_place_69
          · replace h := if_f c58 h
            refine lv_bipush (v := -9) hx hb dX9_place_61 (by decide) ?_
            refine lv_goto (tgt := 69) hx hb dX9_place_63 (by decide) ?_
            cases h
            exact W.iret hx hb hr (fun t ht _ => ⟨rfl, ht⟩) (fun _ hq => by cases hq) dX9_place_69
        · replace h := if_f c43 h
          refine lv_iconst (v := 0) hx hb dX9_place_46 (by decide) ?_
          refine lv_goto (tgt := 51) hx hb dX9_place_47 (by decide) ?_
          refine lv_istore_n (lv' := [(3, .int (0 : Int32)), (0, .ref (xB X 0)), (1, .int a1), (2, .int a2)]) hx hb dX9_place_51 rfl hl (by decide) rfl (fun ls hl => ?_)
          refine lv_iload_n hx hb dX9_place_52 rfl (lv_at hl 0 rfl) ?_
          refine lv_aload_n hx hb dX9_place_53 rfl (lv_at hl 1 rfl) ?_
          refine lv_iload_n hx hb dX9_place_54 rfl (lv_at hl 2 rfl) ?_
          obtain ⟨r55, hc55, h⟩ := Option.bind_eq_some_iff.mp h
          refine rcV (As := [.int a1]) (rest := [.int (0 : Int32)]) ⟨hx, hb, hml, hown, hts⟩ (c_X9_freeOthers l X mi ml ma mb a1 hc55) ⟨w_1160, w_1162, w_40, w_58, w_1163⟩ hd_X9_freeOthers rfl rfl ⟨(Nat.le_of_ble_eq_true rfl), (Nat.le_of_ble_eq_true rfl)⟩ ⟨Nat.zero_le _, Nat.zero_le _⟩ mPre_blind (va_recv hK hP (ci := 5) rfl cM_o) (mPre_call hP hK hN) rfl rfl hl.1 (Nat.le_of_ble_eq_true rfl) dX9_place_55 ?_
          refine lv_icmp_le (tgt := 66) hx hb dX9_place_58 (by decide) (fun c58 => ?_) (fun c58 => ?_)
          · replace h := if_t c58 h
            refine lv_iload_n hx hb dX9_place_66 rfl (lv_at hl 0 rfl) ?_
            refine lv_iconst (v := 1) hx hb dX9_place_67 (by decide) ?_
            refine lv_iadd hx hb dX9_place_68 ?_
            cases h
            exact W.iret hx hb hr (fun t ht _ => ⟨rfl, ht⟩) (fun _ hq => by cases hq) dX9_place_69
          · replace h := if_f c58 h
            refine lv_bipush (v := -9) hx hb dX9_place_61 (by decide) ?_
            refine lv_goto (tgt := 69) hx hb dX9_place_63 (by decide) ?_
            cases h
            exact W.iret hx hb hr (fun t ht _ => ⟨rfl, ht⟩) (fun _ hq => by cases hq) dX9_place_69
      · replace h := if_f c27 h
        refine lv_bipush (v := -9) hx hb dX9_place_30 (by decide) ?_
        cases h
        exact W.iret hx hb hr (fun t ht _ => ⟨rfl, ht⟩) (fun _ hq => by cases hq) dX9_place_32
    · replace h := if_t c17 h
      refine lv_iconst (v := -1) hx hb dX9_place_20 (by decide) ?_
      cases h
      exact W.iret hx hb hr (fun t ht _ => ⟨rfl, ht⟩) (fun _ hq => by cases hq) dX9_place_21
set_option maxRecDepth 100000 in
set_option maxHeartbeats 4000000 in
theorem c_X9_fun (l : Launch) (X : gX) (mi : Nat → Int32) (ml : Nat → Int64) (ma : Nat → Nat → Int32) (mb : Nat → Nat → Int64) (a1 : Int32) {o0 : Int32} (h : X9_fun mi ma a1 = some o0) : Met l yX9_fun (Cond.code yX9_fun cX9_fun 4 (some .int) :: gT) { frames := 3, cells := 0, slots := 0, locals := 67 } (va_Pc [.ref (xB X 0), .int a1] (mPre X mi ml ma mb)) (k2_QcV (.int o0)) 0 0 (fun _ => False) := by
  refine Met.ofW (cc := cX9_fun) (maxL := 4) (ret := (some .int)) (by decide) rfl ?_
  intro p e s m args below meth c s₁ B hml hv
  obtain ⟨rfl, hP, hK, hN⟩ := hv
  have hx := B.exec
  have hb := B.bytes
  have hr := B.returns
  have hts := atoms_spec (ws := (Cond.code yX9_fun cX9_fun 4 (some .int) :: gT)) B.pre
  have hT : ∀ w ∈ gT, w.before _ s = true := fun w hw => hts w (List.mem_cons_of_mem _ hw)
  have hown : s.vm.findClass RX9 = some m.cls := findClass_of_methodNamed B.named
  have hlocks := B.notSynchronized
  have hS : va_S (mA X) s.heap s.heap [] := va_S.rf
  have hl := lv_entry ([.ref (xB X 0), .int a1]) (n := 4) (Nat.le_of_ble_eq_true rfl)
  rw [lg_entry_eq]
  generalize (lg_sl ([.ref (xB X 0), .int a1]) ++ List.replicate (4 - (lg_sl ([.ref (xB X 0), .int a1])).length) Slot.unset).toArray = ls at hl ⊢
  have hl : lv_has ls 4 [(0, .ref (xB X 0)), (1, .int a1)] := hl
  have hL108 : ∀ (v1 : Int32) (v2 : Int32) (ls : Array Slot), lv_has ls 4 [(0, .ref (xB X 0)), (1, .int v1), (2, .int v2)] → X9_fun_108 mi ma v1 v2 = some o0 → W p l e (headSpec (Cond.code yX9_fun cX9_fun 4 (some .int) :: gT) { frames := 3, cells := 0, slots := 0, locals := 67 }).room s m [.ref (xB X 0), .int a1].toArray below meth c s.heap [] 0 0 (MQ below (k2_QcV (.int o0)) [.ref (xB X 0), .int a1].toArray s 0 0 (fun _ => False)) (F0 m 108 ls []) := by
    intro v1 v2 ls hl h
    rw [X9_fun_108] at h
    refine lv_iconst (v := 1) hx hb dX9_fun_108 (by decide) ?_
    refine lv_goto (tgt := 113) hx hb dX9_fun_109 (by decide) ?_
    refine lv_istore_n (lv' := [(3, .int (1 : Int32)), (0, .ref (xB X 0)), (1, .int v1), (2, .int v2)]) hx hb dX9_fun_113 rfl hl (by decide) rfl (fun ls hl => ?_)
    refine lv_iload_n hx hb dX9_fun_114 rfl (lv_at hl 0 rfl) ?_
    refine lv_if_eq (tgt := 131) hx hb dX9_fun_115 (by decide) (fun c115 => ?_) (fun c115 => ?_)
    · replace h := if_t c115 h
      refine lv_bipush (v := -9) hx hb dX9_fun_131 (by decide) ?_
      cases h
      exact W.iret hx hb hr (fun t ht _ => ⟨rfl, ht⟩) (fun _ hq => by cases hq) dX9_fun_133
    · replace h := if_f c115 h
      refine lv_iload_n hx hb dX9_fun_118 rfl (lv_at hl 3 rfl) ?_
      refine lv_aload_n hx hb dX9_fun_119 rfl (lv_at hl 1 rfl) ?_
      refine lv_iload_n hx hb dX9_fun_120 rfl (lv_at hl 2 rfl) ?_
      obtain ⟨r121, hc121, h⟩ := Option.bind_eq_some_iff.mp h
      refine rcV (As := [.int v1]) (rest := [.int v2]) ⟨hx, hb, hml, hown, hts⟩ (c_X9_freeOthers l X mi ml ma mb v1 hc121) ⟨w_1160, w_1162, w_40, w_58, w_1163⟩ hd_X9_freeOthers rfl rfl ⟨(Nat.le_of_ble_eq_true rfl), (Nat.le_of_ble_eq_true rfl)⟩ ⟨Nat.zero_le _, Nat.zero_le _⟩ mPre_blind (va_recv hK hP (ci := 5) rfl cM_o) (mPre_call hP hK hN) rfl rfl hl.1 (Nat.le_of_ble_eq_true rfl) dX9_fun_121 ?_
      refine lv_icmp_gt (tgt := 131) hx hb dX9_fun_124 (by decide) (fun c124 => ?_) (fun c124 => ?_)
      · replace h := if_t c124 h
        refine lv_bipush (v := -9) hx hb dX9_fun_131 (by decide) ?_
        cases h
        exact W.iret hx hb hr (fun t ht _ => ⟨rfl, ht⟩) (fun _ hq => by cases hq) dX9_fun_133
      · replace h := if_f c124 h
        refine lv_iload_n hx hb dX9_fun_127 rfl (lv_at hl 3 rfl) ?_
        refine lv_goto (tgt := 133) hx hb dX9_fun_128 (by decide) ?_
        cases h
        exact W.iret hx hb hr (fun t ht _ => ⟨rfl, ht⟩) (fun _ hq => by cases hq) dX9_fun_133
  have hL80 : ∀ (v1 : Int32) (t0 : Int32) (ls : Array Slot), lv_has ls 4 [(0, .ref (xB X 0)), (1, .int v1)] → X9_fun_80 mi ma v1 t0 = some o0 → W p l e (headSpec (Cond.code yX9_fun cX9_fun 4 (some .int) :: gT) { frames := 3, cells := 0, slots := 0, locals := 67 }).room s m [.ref (xB X 0), .int a1].toArray below meth c s.heap [] 0 0 (MQ below (k2_QcV (.int o0)) [.ref (xB X 0), .int a1].toArray s 0 0 (fun _ => False)) (F0 m 80 ls [.int t0]) := by
    intro v1 t0 ls hl h
    rw [X9_fun_80] at h
    refine lv_istore_n (lv' := [(2, .int t0), (0, .ref (xB X 0)), (1, .int v1)]) hx hb dX9_fun_80 rfl hl (by decide) rfl (fun ls hl => ?_)
    refine lv_aload_n hx hb dX9_fun_81 rfl (lv_at hl 1 rfl) ?_
    refine rg_M_kind hx hb hT hown hK hP w_780 dX9_fun_82 ?_
    refine lv_iload_n hx hb dX9_fun_85 rfl (lv_at hl 2 rfl) ?_
    obtain ⟨hi86, h⟩ := gd_e h
    refine ra_m0 hx hb hK hP (ib_in hi86) dX9_fun_86 ?_
    refine lv_iconst (v := 3) hx hb dX9_fun_87 (by decide) ?_
    refine lv_icmp_eq (tgt := 108) hx hb dX9_fun_88 (by decide) (fun c88 => ?_) (fun c88 => ?_)
    · replace h := if_t c88 h
      exact hL108 v1 t0 ls (lv_sub hl [1, 2, 0] rfl) h
    · replace h := if_f c88 h
      refine lv_aload_n hx hb dX9_fun_91 rfl (lv_at hl 1 rfl) ?_
      refine rg_M_day hx hb hT hown hK hP w_785 dX9_fun_92 ?_
      refine lv_aload_n hx hb dX9_fun_95 rfl (lv_at hl 1 rfl) ?_
      refine rg_M_laughed hx hb hT hown hK hP w_784 dX9_fun_96 ?_
      refine lv_iload_n hx hb dX9_fun_99 rfl (lv_at hl 2 rfl) ?_
      obtain ⟨hi100, h⟩ := gd_e h
      refine ra_m4 hx hb hK hP (ib_in hi100) dX9_fun_100 ?_
      refine lv_isub hx hb dX9_fun_101 ?_
      refine lv_sipush (v := 365) hx hb dX9_fun_102 (by decide) ?_
      refine lv_icmp_lt (tgt := 112) hx hb dX9_fun_105 (by decide) (fun c105 => ?_) (fun c105 => ?_)
      · replace h := if_t c105 h
        refine lv_iconst (v := 0) hx hb dX9_fun_112 (by decide) ?_
        refine lv_istore_n (lv' := [(3, .int (0 : Int32)), (2, .int t0), (0, .ref (xB X 0)), (1, .int v1)]) hx hb dX9_fun_113 rfl hl (by decide) rfl (fun ls hl => ?_)
        refine lv_iload_n hx hb dX9_fun_114 rfl (lv_at hl 0 rfl) ?_
        refine lv_if_eq (tgt := 131) hx hb dX9_fun_115 (by decide) (fun c115 => ?_) (fun c115 => ?_)
        · replace h := if_t c115 h
          refine lv_bipush (v := -9) hx hb dX9_fun_131 (by decide) ?_
          cases h
          exact W.iret hx hb hr (fun t ht _ => ⟨rfl, ht⟩) (fun _ hq => by cases hq) dX9_fun_133
        · replace h := if_f c115 h
          refine lv_iload_n hx hb dX9_fun_118 rfl (lv_at hl 1 rfl) ?_
          refine lv_aload_n hx hb dX9_fun_119 rfl (lv_at hl 2 rfl) ?_
          refine lv_iload_n hx hb dX9_fun_120 rfl (lv_at hl 3 rfl) ?_
          obtain ⟨r121, hc121, h⟩ := Option.bind_eq_some_iff.mp h
          refine rcV (As := [.int v1]) (rest := [.int t0]) ⟨hx, hb, hml, hown, hts⟩ (c_X9_freeOthers l X mi ml ma mb v1 hc121) ⟨w_1160, w_1162, w_40, w_58, w_1163⟩ hd_X9_freeOthers rfl rfl ⟨(Nat.le_of_ble_eq_true rfl), (Nat.le_of_ble_eq_true rfl)⟩ ⟨Nat.zero_le _, Nat.zero_le _⟩ mPre_blind (va_recv hK hP (ci := 5) rfl cM_o) (mPre_call hP hK hN) rfl rfl hl.1 (Nat.le_of_ble_eq_true rfl) dX9_fun_121 ?_
          refine lv_icmp_gt (tgt := 131) hx hb dX9_fun_124 (by decide) (fun c124 => ?_) (fun c124 => ?_)
          · replace h := if_t c124 h
            refine lv_bipush (v := -9) hx hb dX9_fun_131 (by decide) ?_
            cases h
            exact W.iret hx hb hr (fun t ht _ => ⟨rfl, ht⟩) (fun _ hq => by cases hq) dX9_fun_133
          · replace h := if_f c124 h
            refine lv_iload_n hx hb dX9_fun_127 rfl (lv_at hl 1 rfl) ?_
            refine lv_goto (tgt := 133) hx hb dX9_fun_128 (by decide) ?_
            cases h
            exact W.iret hx hb hr (fun t ht _ => ⟨rfl, ht⟩) (fun _ hq => by cases hq) dX9_fun_133
      · replace h := if_f c105 h
        exact hL108 v1 t0 ls (lv_sub hl [1, 2, 0] rfl) h
  rw [X9_fun] at h
  refine lv_aload_n hx hb dX9_fun_0 rfl (lv_at hl 0 rfl) ?_
  refine lv_iload_n hx hb dX9_fun_1 rfl (lv_at hl 1 rfl) ?_
  obtain ⟨r2, hc2, h⟩ := Option.bind_eq_some_iff.mp h
  refine rcV (As := [.int a1]) (rest := []) ⟨hx, hb, hml, hown, hts⟩ (c_X9_isOne l X mi ml ma mb a1 hc2) ⟨w_986, w_988, w_18, w_58, w_989⟩ hd_X9_isOne rfl rfl ⟨(Nat.le_of_ble_eq_true rfl), (Nat.le_of_ble_eq_true rfl)⟩ ⟨Nat.zero_le _, Nat.zero_le _⟩ mPre_blind (va_recv hK hP (ci := 5) rfl cM_o) (mPre_call hP hK hN) rfl rfl hl.1 (Nat.le_of_ble_eq_true rfl) dX9_fun_2 ?_
  refine lv_if_ne (tgt := 10) hx hb dX9_fun_5 (by decide) (fun c5 => ?_) (fun c5 => ?_)
  · replace h := if_f c5 h
    refine lv_aload_n hx hb dX9_fun_10 rfl (lv_at hl 0 rfl) ?_
    refine lv_iload_n hx hb dX9_fun_11 rfl (lv_at hl 1 rfl) ?_
    obtain ⟨r12, hc12, h⟩ := Option.bind_eq_some_iff.mp h
    refine rcV (As := [.int a1]) (rest := []) ⟨hx, hb, hml, hown, hts⟩ (c_X9_isStuck l X mi ml ma mb a1 hc12) ⟨w_1026, w_1028, w_27, w_58, w_1029⟩ hd_X9_isStuck rfl rfl ⟨(Nat.le_of_ble_eq_true rfl), (Nat.le_of_ble_eq_true rfl)⟩ ⟨Nat.zero_le _, Nat.zero_le _⟩ mPre_blind (va_recv hK hP (ci := 5) rfl cM_o) (mPre_call hP hK hN) rfl rfl hl.1 (Nat.le_of_ble_eq_true rfl) dX9_fun_12 ?_
    refine lv_if_eq (tgt := 21) hx hb dX9_fun_15 (by decide) (fun c15 => ?_) (fun c15 => ?_)
    · replace h := if_t c15 h
      refine lv_aload_n hx hb dX9_fun_21 rfl (lv_at hl 0 rfl) ?_
      refine rg_M_kind hx hb hT hown hK hP w_780 dX9_fun_22 ?_
      refine lv_iload_n hx hb dX9_fun_25 rfl (lv_at hl 1 rfl) ?_
      obtain ⟨hi26, h⟩ := gd_e h
      refine ra_m0 hx hb hK hP (ib_in hi26) dX9_fun_26 ?_
      refine lv_iconst (v := 3) hx hb dX9_fun_27 (by decide) ?_
      refine lv_icmp_ne (tgt := 43) hx hb dX9_fun_28 (by decide) (fun c28 => ?_) (fun c28 => ?_)
      · replace h := if_f c28 h
        refine lv_aload_n hx hb dX9_fun_43 rfl (lv_at hl 0 rfl) ?_
        refine rg_M_taste hx hb hT hown hK hP w_781 dX9_fun_44 ?_
        refine lv_iload_n hx hb dX9_fun_47 rfl (lv_at hl 1 rfl) ?_
        obtain ⟨hi48, h⟩ := gd_e h
        refine ra_m1 hx hb hK hP (ib_in hi48) dX9_fun_48 ?_
        refine lv_aload_n hx hb dX9_fun_49 rfl (lv_at hl 0 rfl) ?_
        refine lv_iload_n hx hb dX9_fun_50 rfl (lv_at hl 1 rfl) ?_
        refine lv_iconst (v := 2) hx hb dX9_fun_51 (by decide) ?_
        obtain ⟨r52, hc52, h⟩ := Option.bind_eq_some_iff.mp h
        refine rcV (As := [.int a1, .int (2 : Int32)]) (rest := [.int (ma 1 a1.toNatClampNeg)]) ⟨hx, hb, hml, hown, hts⟩ (c_X9_isOf l X mi ml ma mb a1 (2 : Int32) hc52) ⟨w_1006, w_1008, w_22, w_58, w_1009⟩ hd_X9_isOf rfl rfl ⟨(Nat.le_of_ble_eq_true rfl), (Nat.le_of_ble_eq_true rfl)⟩ ⟨Nat.zero_le _, Nat.zero_le _⟩ mPre_blind (va_recv hK hP (ci := 5) rfl cM_o) (mPre_call hP hK hN) rfl rfl hl.1 (Nat.le_of_ble_eq_true rfl) dX9_fun_52 ?_
        refine lv_if_eq (tgt := 62) hx hb dX9_fun_55 (by decide) (fun c55 => ?_) (fun c55 => ?_)
        · replace h := if_t c55 h
          refine lv_iconst (v := 0) hx hb dX9_fun_62 (by decide) ?_
          refine lv_iadd hx hb dX9_fun_63 ?_
          refine lv_aload_n hx hb dX9_fun_64 rfl (lv_at hl 0 rfl) ?_
          refine lv_iload_n hx hb dX9_fun_65 rfl (lv_at hl 1 rfl) ?_
          obtain ⟨r66, hc66, h⟩ := Option.bind_eq_some_iff.mp h
          refine rcV (As := [.int a1]) (rest := [.int ((ma 1 a1.toNatClampNeg) + (0 : Int32))]) ⟨hx, hb, hml, hown, hts⟩ (c_X9_sightOf l X mi ml ma mb a1 hc66) ⟨w_1014, w_1016, w_24, w_58, w_1017⟩ hd_X9_sightOf rfl rfl ⟨(Nat.le_of_ble_eq_true rfl), (Nat.le_of_ble_eq_true rfl)⟩ ⟨Nat.zero_le _, Nat.zero_le _⟩ mPre_blind (va_recv hK hP (ci := 5) rfl cM_o) (mPre_call hP hK hN) rfl rfl hl.1 (Nat.le_of_ble_eq_true rfl) dX9_fun_66 ?_
          refine lv_isub hx hb dX9_fun_69 ?_
          refine lv_istore_n (lv' := [(2, .int (((ma 1 a1.toNatClampNeg) + (0 : Int32)) - r66)), (0, .ref (xB X 0)), (1, .int a1)]) hx hb dX9_fun_70 rfl hl (by decide) rfl (fun ls hl => ?_)
          refine lv_iload_n hx hb dX9_fun_71 rfl (lv_at hl 0 rfl) ?_
          refine lv_if_ge (tgt := 79) hx hb dX9_fun_72 (by decide) (fun c72 => ?_) (fun c72 => ?_)
          · replace h := if_t c72 h
            refine lv_iload_n hx hb dX9_fun_79 rfl (lv_at hl 0 rfl) ?_
            exact hL80 a1 (((ma 1 a1.toNatClampNeg) + (0 : Int32)) - r66) ls (lv_sub hl [1, 2] rfl) h
          · replace h := if_f c72 h
            refine lv_iconst (v := 0) hx hb dX9_fun_75 (by decide) ?_
            refine lv_goto (tgt := 80) hx hb dX9_fun_76 (by decide) ?_
            exact hL80 a1 (0 : Int32) ls (lv_sub hl [1, 2] rfl) h
        · replace h := if_f c55 h
          refine lv_iconst (v := 1) hx hb dX9_fun_58 (by decide) ?_
          refine lv_goto (tgt := 63) hx hb dX9_fun_59 (by decide) ?_
          refine lv_iadd hx hb dX9_fun_63 ?_
          refine lv_aload_n hx hb dX9_fun_64 rfl (lv_at hl 0 rfl) ?_
          refine lv_iload_n hx hb dX9_fun_65 rfl (lv_at hl 1 rfl) ?_
          obtain ⟨r66, hc66, h⟩ := Option.bind_eq_some_iff.mp h
          refine rcV (As := [.int a1]) (rest := [.int ((ma 1 a1.toNatClampNeg) + (1 : Int32))]) ⟨hx, hb, hml, hown, hts⟩ (c_X9_sightOf l X mi ml ma mb a1 hc66) ⟨w_1014, w_1016, w_24, w_58, w_1017⟩ hd_X9_sightOf rfl rfl ⟨(Nat.le_of_ble_eq_true rfl), (Nat.le_of_ble_eq_true rfl)⟩ ⟨Nat.zero_le _, Nat.zero_le _⟩ mPre_blind (va_recv hK hP (ci := 5) rfl cM_o) (mPre_call hP hK hN) rfl rfl hl.1 (Nat.le_of_ble_eq_true rfl) dX9_fun_66 ?_
          refine lv_isub hx hb dX9_fun_69 ?_
          refine lv_istore_n (lv' := [(2, .int (((ma 1 a1.toNatClampNeg) + (1 : Int32)) - r66)), (0, .ref (xB X 0)), (1, .int a1)]) hx hb dX9_fun_70 rfl hl (by decide) rfl (fun ls hl => ?_)
          refine lv_iload_n hx hb dX9_fun_71 rfl (lv_at hl 0 rfl) ?_
          refine lv_if_ge (tgt := 79) hx hb dX9_fun_72 (by decide) (fun c72 => ?_) (fun c72 => ?_)
          · replace h := if_t c72 h
            refine lv_iload_n hx hb dX9_fun_79 rfl (lv_at hl 0 rfl) ?_
            exact hL80 a1 (((ma 1 a1.toNatClampNeg) + (1 : Int32)) - r66) ls (lv_sub hl [1, 2] rfl) h
          · replace h := if_f c72 h
            refine lv_iconst (v := 0) hx hb dX9_fun_75 (by decide) ?_
            refine lv_goto (tgt := 80) hx hb dX9_fun_76 (by decide) ?_
            exact hL80 a1 (0 : Int32) ls (lv_sub hl [1, 2] rfl) h
      · replace h := if_t c28 h
        refine lv_iconst (v := 1) hx hb dX9_fun_31 (by decide) ?_
        refine lv_aload_n hx hb dX9_fun_32 rfl (lv_at hl 0 rfl) ?_
        obtain ⟨r33, hc33, h⟩ := Option.bind_eq_some_iff.mp h
        refine rcV (As := []) (rest := [.int (1 : Int32)]) ⟨hx, hb, hml, hown, hts⟩ (c_X9_stuckSet l X mi ml ma mb hc33) ⟨w_1022, w_1024, w_26, w_58, w_1025⟩ hd_X9_stuckSet rfl rfl ⟨(Nat.le_of_ble_eq_true rfl), (Nat.le_of_ble_eq_true rfl)⟩ ⟨Nat.zero_le _, Nat.zero_le _⟩ mPre_blind (va_recv hK hP (ci := 5) rfl cM_o) (mPre_call hP hK hN) rfl rfl hl.1 (Nat.le_of_ble_eq_true rfl) dX9_fun_33 ?_
        obtain ⟨r36, hc36, h⟩ := Option.bind_eq_some_iff.mp h
        refine rcS (As := [.int r33]) (rest := [.int (1 : Int32)]) ⟨hx, hb, hml, hown, hts⟩ (c_X9_bits l r33 hc36) ⟨w_1030, w_1031, w_58, w_1032⟩ hd_X9_bits rfl rfl ⟨(Nat.le_of_ble_eq_true rfl), (Nat.le_of_ble_eq_true rfl)⟩ ⟨Nat.zero_le _, Nat.zero_le _⟩ (fun _ _ _ _ h => h) (fun _ _ _ => trivial) rfl rfl hl.1 (Nat.le_of_ble_eq_true rfl) dX9_fun_36 ?_
        refine lv_isub hx hb dX9_fun_39 ?_
        refine lv_goto (tgt := 70) hx hb dX9_fun_40 (by decide) ?_
        refine lv_istore_n (lv' := [(2, .int ((1 : Int32) - r36)), (0, .ref (xB X 0)), (1, .int a1)]) hx hb dX9_fun_70 rfl hl (by decide) rfl (fun ls hl => ?_)
        refine lv_iload_n hx hb dX9_fun_71 rfl (lv_at hl 0 rfl) ?_
        refine lv_if_ge (tgt := 79) hx hb dX9_fun_72 (by decide) (fun c72 => ?_) (fun c72 => ?_)
        · replace h := if_t c72 h
          refine lv_iload_n hx hb dX9_fun_79 rfl (lv_at hl 0 rfl) ?_
          exact hL80 a1 ((1 : Int32) - r36) ls (lv_sub hl [1, 2] rfl) h
        · replace h := if_f c72 h
          refine lv_iconst (v := 0) hx hb dX9_fun_75 (by decide) ?_
          refine lv_goto (tgt := 80) hx hb dX9_fun_76 (by decide) ?_
          exact hL80 a1 (0 : Int32) ls (lv_sub hl [1, 2] rfl) h
    · replace h := if_f c15 h
      refine lv_bipush (v := -4) hx hb dX9_fun_18 (by decide) ?_
      cases h
      exact W.iret hx hb hr (fun t ht _ => ⟨rfl, ht⟩) (fun _ hq => by cases hq) dX9_fun_20
  · replace h := if_t c5 h
    refine lv_iconst (v := -1) hx hb dX9_fun_8 (by decide) ?_
    cases h
    exact W.iret hx hb hr (fun t ht _ => ⟨rfl, ht⟩) (fun _ hq => by cases hq) dX9_fun_9
set_option maxRecDepth 100000 in
set_option maxHeartbeats 4000000 in
theorem c_X9_jester (l : Launch) (X : gX) (mi : Nat → Int32) (ml : Nat → Int64) (ma : Nat → Nat → Int32) (mb : Nat → Nat → Int64) {o0 : Int32} {o_mi : Nat → Int32} (h : X9_jester ma mi = some (o0, o_mi)) : Met l yX9_jester (Cond.code yX9_jester cX9_jester 2 (some .int) :: gT) { frames := 4, cells := 0, slots := 0, locals := 89 } (va_Pc [.ref (xB X 0)] (mPre X mi ml ma mb)) (wQ (some (.int o0)) (fun H => va_P X.1 vwCl (cM X o_mi ml ma mb) H) (mA X)) 0 0 (mA X) := by
  refine Met.ofW (cc := cX9_jester) (maxL := 2) (ret := (some .int)) (by decide) rfl ?_
  intro p e s m args below meth c s₁ B hml hv
  obtain ⟨rfl, hP, hK, hN⟩ := hv
  have hx := B.exec
  have hb := B.bytes
  have hr := B.returns
  have hts := atoms_spec (ws := (Cond.code yX9_jester cX9_jester 2 (some .int) :: gT)) B.pre
  have hT : ∀ w ∈ gT, w.before _ s = true := fun w hw => hts w (List.mem_cons_of_mem _ hw)
  have hown : s.vm.findClass RX9 = some m.cls := findClass_of_methodNamed B.named
  have hlocks := B.notSynchronized
  have hS : va_S (mA X) s.heap s.heap [] := va_S.rf
  have hl := lv_entry ([.ref (xB X 0)]) (n := 2) (Nat.le_of_ble_eq_true rfl)
  rw [lg_entry_eq]
  generalize (lg_sl ([.ref (xB X 0)]) ++ List.replicate (2 - (lg_sl ([.ref (xB X 0)])).length) Slot.unset).toArray = ls at hl ⊢
  have hl : lv_has ls 2 [(0, .ref (xB X 0))] := hl
  have hL2 : ∀ (n2 : Nat) (v1 : Int32) (mi : Nat → Int32) (H : Heap) (locs : List Loc) (ls : Array Slot), lv_has ls 2 [(0, .ref (xB X 0)), (1, .int v1)] → va_P X.1 vwCl (cM X mi ml ma mb) H → va_S (mA X) s.heap H locs → X9_jester_2 ma n2 v1 mi = some (o0, o_mi) → W p l e (headSpec (Cond.code yX9_jester cX9_jester 2 (some .int) :: gT) { frames := 4, cells := 0, slots := 0, locals := 89 }).room s m [.ref (xB X 0)].toArray below meth c H locs 0 0 (MQ below (wQ (some (.int o0)) (fun H => va_P X.1 vwCl (cM X o_mi ml ma mb) H) (mA X)) [.ref (xB X 0)].toArray s 0 0 (mA X)) (F0 m 2 ls []) := by
    intro n2
    induction n2 with
    | zero =>
      intro v1 mi H locs ls hl hP hS h
      rw [X9_jester_2] at h
      cases h
    | succ n2 ih2 =>
      intro v1 mi H locs ls hl hP hS h
      rw [X9_jester_2] at h
      refine lv_iload_n hx hb dX9_jester_2 rfl (lv_at hl 1 rfl) ?_
      refine lv_aload_n hx hb dX9_jester_3 rfl (lv_at hl 0 rfl) ?_
      refine rg_M_people hx hb hT hown hK hP w_779 dX9_jester_4 ?_
      refine lv_icmp_ge (tgt := 37) hx hb dX9_jester_7 (by decide) (fun c7 => ?_) (fun c7 => ?_)
      · replace h := if_t c7 h
        refine lv_bipush (v := -9) hx hb dX9_jester_37 (by decide) ?_
        cases h
        exact W.iret hx hb hr (fun t ht _ => ⟨rfl, by rw [ht]; exact hP, hS.F ht⟩) hS.2.2 dX9_jester_39
      · replace h := if_f c7 h
        refine lv_aload_n hx hb dX9_jester_10 rfl (lv_at hl 0 rfl) ?_
        refine lv_iload_n hx hb dX9_jester_11 rfl (lv_at hl 1 rfl) ?_
        obtain ⟨r12, hc12, h⟩ := Option.bind_eq_some_iff.mp h
        refine rcV (As := [.int v1]) (rest := []) ⟨hx, hb, hml, hown, hts⟩ (c_X9_mayLaugh l X mi ml ma mb v1 hc12) ⟨w_1067, w_1069, w_33, w_58, w_1070⟩ hd_X9_mayLaugh rfl rfl ⟨(Nat.le_of_ble_eq_true rfl), (Nat.le_of_ble_eq_true rfl)⟩ ⟨Nat.zero_le _, Nat.zero_le _⟩ mPre_blind (va_recv hK hP (ci := 5) rfl cM_o) (mPre_call hP hK hN) rfl rfl hl.1 (Nat.le_of_ble_eq_true rfl) dX9_jester_12 ?_
        refine lv_if_eq (tgt := 31) hx hb dX9_jester_15 (by decide) (fun c15 => ?_) (fun c15 => ?_)
        · replace h := if_t c15 h
          refine lv_iinc (v := (v1 + (1 : Int32))) (lv' := [(1, .int (v1 + (1 : Int32))), (0, .ref (xB X 0))]) hx hb dX9_jester_31 hl (k := 1) rfl rfl (by decide) rfl (fun ls hl => ?_)
          refine lv_goto (tgt := 2) hx hb dX9_jester_34 (by decide) ?_
          exact ih2 (v1 + (1 : Int32)) mi _ _ ls (lv_sub hl [1, 0] rfl) hP hS h
        · replace h := if_f c15 h
          refine lv_aload_n hx hb dX9_jester_18 rfl (lv_at hl 0 rfl) ?_
          refine lv_aload_n hx hb dX9_jester_19 rfl (lv_at hl 0 rfl) ?_
          obtain ⟨r20, hc20, h⟩ := Option.bind_eq_some_iff.mp h
          refine rcV (As := []) (rest := [.ref (xB X 0)]) ⟨hx, hb, hml, hown, hts⟩ (c_X9_stuckSet l X mi ml ma mb hc20) ⟨w_1022, w_1024, w_26, w_58, w_1025⟩ hd_X9_stuckSet rfl rfl ⟨(Nat.le_of_ble_eq_true rfl), (Nat.le_of_ble_eq_true rfl)⟩ ⟨Nat.zero_le _, Nat.zero_le _⟩ mPre_blind (va_recv hK hP (ci := 5) rfl cM_o) (mPre_call hP hK hN) rfl rfl hl.1 (Nat.le_of_ble_eq_true rfl) dX9_jester_20 ?_
          obtain ⟨r23, hc23, h⟩ := Option.bind_eq_some_iff.mp h
          refine rcS (As := [.int r20]) (rest := [.ref (xB X 0)]) ⟨hx, hb, hml, hown, hts⟩ (c_X9_bits l r20 hc23) ⟨w_1030, w_1031, w_58, w_1032⟩ hd_X9_bits rfl rfl ⟨(Nat.le_of_ble_eq_true rfl), (Nat.le_of_ble_eq_true rfl)⟩ ⟨Nat.zero_le _, Nat.zero_le _⟩ (fun _ _ _ _ h => h) (fun _ _ _ => trivial) rfl rfl hl.1 (Nat.le_of_ble_eq_true rfl) dX9_jester_23 ?_
          refine rp_M_asked hx hb hT hown hK hP hN hS w_791 dX9_jester_26 (fun H locs hP hS => ?_)
          generalize emi_26 : va_up mi 3 r23 = mi_26 at hP
          replace h := lt_g h emi_26
          refine lv_iload_n hx hb dX9_jester_29 rfl (lv_at hl 1 rfl) ?_
          cases h
          exact W.iret hx hb hr (fun t ht _ => ⟨rfl, by rw [ht]; exact hP, hS.F ht⟩) hS.2.2 dX9_jester_30
  rw [X9_jester] at h
  refine lv_iconst (v := 0) hx hb dX9_jester_0 (by decide) ?_
  refine lv_istore_n (lv' := [(1, .int (0 : Int32)), (0, .ref (xB X 0))]) hx hb dX9_jester_1 rfl hl (by decide) rfl (fun ls hl => ?_)
  exact hL2 500 (0 : Int32) mi _ _ ls (lv_sub hl [1, 0] rfl) hP hS h
set_option maxRecDepth 100000 in
set_option maxHeartbeats 4000000 in
theorem c_X9_waysNow (l : Launch) (X : gX) (mi : Nat → Int32) (ml : Nat → Int64) (ma : Nat → Nat → Int32) (mb : Nat → Nat → Int64) {o0 : Int32} (h : X9_waysNow mi ma = some o0) : Met l yX9_waysNow (Cond.code yX9_waysNow cX9_waysNow 4 (some .int) :: gT) { frames := 2, cells := 0, slots := 0, locals := 43 } (va_Pc [.ref (xB X 0)] (mPre X mi ml ma mb)) (k2_QcV (.int o0)) 0 0 (fun _ => False) := by
  refine Met.ofW (cc := cX9_waysNow) (maxL := 4) (ret := (some .int)) (by decide) rfl ?_
  intro p e s m args below meth c s₁ B hml hv
  obtain ⟨rfl, hP, hK, hN⟩ := hv
  have hx := B.exec
  have hb := B.bytes
  have hr := B.returns
  have hts := atoms_spec (ws := (Cond.code yX9_waysNow cX9_waysNow 4 (some .int) :: gT)) B.pre
  have hT : ∀ w ∈ gT, w.before _ s = true := fun w hw => hts w (List.mem_cons_of_mem _ hw)
  have hown : s.vm.findClass RX9 = some m.cls := findClass_of_methodNamed B.named
  have hlocks := B.notSynchronized
  have hS : va_S (mA X) s.heap s.heap [] := va_S.rf
  have hl := lv_entry ([.ref (xB X 0)]) (n := 4) (Nat.le_of_ble_eq_true rfl)
  rw [lg_entry_eq]
  generalize (lg_sl ([.ref (xB X 0)]) ++ List.replicate (4 - (lg_sl ([.ref (xB X 0)])).length) Slot.unset).toArray = ls at hl ⊢
  have hl : lv_has ls 4 [(0, .ref (xB X 0))] := hl
  have hL4 : ∀ (n4 : Nat) (v1 : Int32) (v2 : Int32) (ls : Array Slot), lv_has ls 4 [(0, .ref (xB X 0)), (1, .int v1), (2, .int v2)] → X9_waysNow_4 mi ma n4 v1 v2 = some o0 → W p l e (headSpec (Cond.code yX9_waysNow cX9_waysNow 4 (some .int) :: gT) { frames := 2, cells := 0, slots := 0, locals := 43 }).room s m [.ref (xB X 0)].toArray below meth c s.heap [] 0 0 (MQ below (k2_QcV (.int o0)) [.ref (xB X 0)].toArray s 0 0 (fun _ => False)) (F0 m 4 ls []) := by
    intro n4
    induction n4 with
    | zero =>
      intro v1 v2 ls hl h
      rw [X9_waysNow_4] at h
      cases h
    | succ n4 ih4 =>
      intro v1 v2 ls hl h
      rw [X9_waysNow_4] at h
      have hL38 : ∀ (v1 : Int32) (v2 : Int32) (t0 : Int32) (ls : Array Slot), lv_has ls 4 [(0, .ref (xB X 0)), (1, .int v1), (2, .int v2)] → X9_waysNow_38 mi ma (X9_waysNow_4 mi ma n4) v1 v2 t0 = some o0 → W p l e (headSpec (Cond.code yX9_waysNow cX9_waysNow 4 (some .int) :: gT) { frames := 2, cells := 0, slots := 0, locals := 43 }).room s m [.ref (xB X 0)].toArray below meth c s.heap [] 0 0 (MQ below (k2_QcV (.int o0)) [.ref (xB X 0)].toArray s 0 0 (fun _ => False)) (F0 m 38 ls [.int t0]) := by
        intro v1 v2 t0 ls hl h
        rw [X9_waysNow_38] at h
        refine lv_istore_n (lv' := [(3, .int t0), (0, .ref (xB X 0)), (1, .int v1), (2, .int v2)]) hx hb dX9_waysNow_38 rfl hl (by decide) rfl (fun ls hl => ?_)
        refine lv_iload_n hx hb dX9_waysNow_39 rfl (lv_at hl 2 rfl) ?_
        refine lv_iload_n hx hb dX9_waysNow_40 rfl (lv_at hl 0 rfl) ?_
        refine lv_aload_n hx hb dX9_waysNow_41 rfl (lv_at hl 1 rfl) ?_
        obtain ⟨r42, hc42, h⟩ := Option.bind_eq_some_iff.mp h
        refine rcV (As := []) (rest := [.int t0, .int v1]) ⟨hx, hb, hml, hown, hts⟩ (c_X9_stuckSet l X mi ml ma mb hc42) ⟨w_1022, w_1024, w_26, w_58, w_1025⟩ hd_X9_stuckSet rfl rfl ⟨(Nat.le_of_ble_eq_true rfl), (Nat.le_of_ble_eq_true rfl)⟩ ⟨Nat.zero_le _, Nat.zero_le _⟩ mPre_blind (va_recv hK hP (ci := 5) rfl cM_o) (mPre_call hP hK hN) rfl rfl hl.1 (Nat.le_of_ble_eq_true rfl) dX9_waysNow_42 ?_
        obtain ⟨r45, hc45, h⟩ := Option.bind_eq_some_iff.mp h
        refine rcS (As := [.int r42]) (rest := [.int t0, .int v1]) ⟨hx, hb, hml, hown, hts⟩ (c_X9_bits l r42 hc45) ⟨w_1030, w_1031, w_58, w_1032⟩ hd_X9_bits rfl rfl ⟨(Nat.le_of_ble_eq_true rfl), (Nat.le_of_ble_eq_true rfl)⟩ ⟨Nat.zero_le _, Nat.zero_le _⟩ (fun _ _ _ _ h => h) (fun _ _ _ => trivial) rfl rfl hl.1 (Nat.le_of_ble_eq_true rfl) dX9_waysNow_45 ?_
        refine lv_iconst (v := 1) hx hb dX9_waysNow_48 (by decide) ?_
        refine lv_iadd hx hb dX9_waysNow_49 ?_
        refine lv_imul hx hb dX9_waysNow_50 ?_
        refine lv_iadd hx hb dX9_waysNow_51 ?_
        refine lv_istore_n (lv' := [(1, .int (v1 + (t0 * (r45 + (1 : Int32))))), (3, .int t0), (0, .ref (xB X 0)), (2, .int v2)]) hx hb dX9_waysNow_52 rfl hl (by decide) rfl (fun ls hl => ?_)
        refine lv_iinc (v := (v2 + (1 : Int32))) (lv' := [(2, .int (v2 + (1 : Int32))), (1, .int (v1 + (t0 * (r45 + (1 : Int32))))), (3, .int t0), (0, .ref (xB X 0))]) hx hb dX9_waysNow_53 hl (k := 3) rfl rfl (by decide) rfl (fun ls hl => ?_)
        refine lv_goto (tgt := 4) hx hb dX9_waysNow_56 (by decide) ?_
        exact ih4 (v1 + (t0 * (r45 + (1 : Int32)))) (v2 + (1 : Int32)) ls (lv_sub hl [3, 1, 0] rfl) h
      refine lv_iload_n hx hb dX9_waysNow_4 rfl (lv_at hl 2 rfl) ?_
      refine lv_aload_n hx hb dX9_waysNow_5 rfl (lv_at hl 0 rfl) ?_
      refine rg_M_people hx hb hT hown hK hP w_779 dX9_waysNow_6 ?_
      refine lv_icmp_ge (tgt := 59) hx hb dX9_waysNow_9 (by decide) (fun c9 => ?_) (fun c9 => ?_)
      · replace h := if_t c9 h
        refine lv_iload_n hx hb dX9_waysNow_59 rfl (lv_at hl 1 rfl) ?_
        cases h
        exact W.iret hx hb hr (fun t ht _ => ⟨rfl, ht⟩) (fun _ hq => by cases hq) dX9_waysNow_60
      · replace h := if_f c9 h
        refine lv_aload_n hx hb dX9_waysNow_12 rfl (lv_at hl 0 rfl) ?_
        refine lv_iload_n hx hb dX9_waysNow_13 rfl (lv_at hl 2 rfl) ?_
        obtain ⟨r14, hc14, h⟩ := Option.bind_eq_some_iff.mp h
        refine rcV (As := [.int v2]) (rest := []) ⟨hx, hb, hml, hown, hts⟩ (c_X9_isStuck l X mi ml ma mb v2 hc14) ⟨w_1026, w_1028, w_27, w_58, w_1029⟩ hd_X9_isStuck rfl rfl ⟨(Nat.le_of_ble_eq_true rfl), (Nat.le_of_ble_eq_true rfl)⟩ ⟨Nat.zero_le _, Nat.zero_le _⟩ mPre_blind (va_recv hK hP (ci := 5) rfl cM_o) (mPre_call hP hK hN) rfl rfl hl.1 (Nat.le_of_ble_eq_true rfl) dX9_waysNow_14 ?_
        refine lv_if_eq (tgt := 24) hx hb dX9_waysNow_17 (by decide) (fun c17 => ?_) (fun c17 => ?_)
        · replace h := if_t c17 h
          refine lv_aload_n hx hb dX9_waysNow_24 rfl (lv_at hl 0 rfl) ?_
          refine lv_iload_n hx hb dX9_waysNow_25 rfl (lv_at hl 2 rfl) ?_
          refine lv_iconst (v := 0) hx hb dX9_waysNow_26 (by decide) ?_
          obtain ⟨r27, hc27, h⟩ := Option.bind_eq_some_iff.mp h
          refine rcV (As := [.int v2, .int (0 : Int32)]) (rest := []) ⟨hx, hb, hml, hown, hts⟩ (c_X9_sticks l X mi ml ma mb v2 (0 : Int32) hc27) ⟨w_1055, w_1057, w_31, w_58, w_1058⟩ hd_X9_sticks rfl rfl ⟨(Nat.le_of_ble_eq_true rfl), (Nat.le_of_ble_eq_true rfl)⟩ ⟨Nat.zero_le _, Nat.zero_le _⟩ mPre_blind (va_recv hK hP (ci := 5) rfl cM_o) (mPre_call hP hK hN) rfl rfl hl.1 (Nat.le_of_ble_eq_true rfl) dX9_waysNow_27 ?_
          refine lv_if_eq (tgt := 37) hx hb dX9_waysNow_30 (by decide) (fun c30 => ?_) (fun c30 => ?_)
          · replace h := if_t c30 h
            refine lv_iconst (v := 1) hx hb dX9_waysNow_37 (by decide) ?_
            exact hL38 v1 v2 (1 : Int32) ls (lv_sub hl [0, 1, 2] rfl) h
          · replace h := if_f c30 h
            refine lv_iconst (v := 2) hx hb dX9_waysNow_33 (by decide) ?_
            refine lv_goto (tgt := 38) hx hb dX9_waysNow_34 (by decide) ?_
            exact hL38 v1 v2 (2 : Int32) ls (lv_sub hl [0, 1, 2] rfl) h
        · replace h := if_f c17 h
          refine lv_iconst (v := 0) hx hb dX9_waysNow_20 (by decide) ?_
          refine lv_goto (tgt := 38) hx hb dX9_waysNow_21 (by decide) ?_
          exact hL38 v1 v2 (0 : Int32) ls (lv_sub hl [0, 1, 2] rfl) h
  rw [X9_waysNow] at h
  refine lv_iconst (v := 0) hx hb dX9_waysNow_0 (by decide) ?_
  refine lv_istore_n (lv' := [(1, .int (0 : Int32)), (0, .ref (xB X 0))]) hx hb dX9_waysNow_1 rfl hl (by decide) rfl (fun ls hl => ?_)
  refine lv_iconst (v := 0) hx hb dX9_waysNow_2 (by decide) ?_
  refine lv_istore_n (lv' := [(2, .int (0 : Int32)), (1, .int (0 : Int32)), (0, .ref (xB X 0))]) hx hb dX9_waysNow_3 rfl hl (by decide) rfl (fun ls hl => ?_)
  exact hL4 500 (0 : Int32) (0 : Int32) ls (lv_sub hl [2, 1, 0] rfl) h
set_option maxRecDepth 100000 in
set_option maxHeartbeats 4000000 in
theorem c_X9_ways (l : Launch) (X : gX) (mi : Nat → Int32) (ml : Nat → Int64) (ma : Nat → Nat → Int32) (mb : Nat → Nat → Int64) {o0 : Int32} (h : X9_ways mi ma = some o0) : Met l yX9_ways (Cond.code yX9_ways cX9_ways 1 (some .int) :: gT) { frames := 3, cells := 0, slots := 0, locals := 66 } (va_Pc [.ref (xB X 0)] (mPre X mi ml ma mb)) (k2_QcV (.int o0)) 0 0 (fun _ => False) := by
  refine Met.ofW (cc := cX9_ways) (maxL := 1) (ret := (some .int)) (by decide) rfl ?_
  intro p e s m args below meth c s₁ B hml hv
  obtain ⟨rfl, hP, hK, hN⟩ := hv
  have hx := B.exec
  have hb := B.bytes
  have hr := B.returns
  have hts := atoms_spec (ws := (Cond.code yX9_ways cX9_ways 1 (some .int) :: gT)) B.pre
  have hT : ∀ w ∈ gT, w.before _ s = true := fun w hw => hts w (List.mem_cons_of_mem _ hw)
  have hown : s.vm.findClass RX9 = some m.cls := findClass_of_methodNamed B.named
  have hlocks := B.notSynchronized
  have hS : va_S (mA X) s.heap s.heap [] := va_S.rf
  have hl := lv_entry ([.ref (xB X 0)]) (n := 1) (Nat.le_of_ble_eq_true rfl)
  rw [lg_entry_eq]
  generalize (lg_sl ([.ref (xB X 0)]) ++ List.replicate (1 - (lg_sl ([.ref (xB X 0)])).length) Slot.unset).toArray = ls at hl ⊢
  have hl : lv_has ls 1 [(0, .ref (xB X 0))] := hl
  rw [X9_ways] at h
  refine lv_aload_n hx hb dX9_ways_0 rfl (lv_at hl 0 rfl) ?_
  obtain ⟨r1, hc1, h⟩ := Option.bind_eq_some_iff.mp h
  refine rcV (As := []) (rest := []) ⟨hx, hb, hml, hown, hts⟩ (c_X9_waysNow l X mi ml ma mb hc1) ⟨w_1176, w_1178, w_41, w_58, w_1179⟩ hd_X9_waysNow rfl rfl ⟨(Nat.le_of_ble_eq_true rfl), (Nat.le_of_ble_eq_true rfl)⟩ ⟨Nat.zero_le _, Nat.zero_le _⟩ mPre_blind (va_recv hK hP (ci := 5) rfl cM_o) (mPre_call hP hK hN) rfl rfl hl.1 (Nat.le_of_ble_eq_true rfl) dX9_ways_1 ?_
  cases h
  exact W.iret hx hb hr (fun t ht _ => ⟨rfl, ht⟩) (fun _ hq => by cases hq) dX9_ways_4
set_option maxRecDepth 100000 in
set_option maxHeartbeats 4000000 in
theorem c_X9_feed (l : Launch) (X : gX) (mi : Nat → Int32) (ml : Nat → Int64) (ma : Nat → Nat → Int32) (mb : Nat → Nat → Int64) (a1 : Int32) (a2 : Int32) {o0 : Int32} (h : X9_feed mi ma a1 a2 = some o0) : Met l yX9_feed (Cond.code yX9_feed cX9_feed 4 (some .int) :: gT) { frames := 2, cells := 0, slots := 0, locals := 49 } (va_Pc [.ref (xB X 0), .int a1, .int a2] (mPre X mi ml ma mb)) (k2_QcV (.int o0)) 0 0 (fun _ => False) := by
  refine Met.ofW (cc := cX9_feed) (maxL := 4) (ret := (some .int)) (by decide) rfl ?_
  intro p e s m args below meth c s₁ B hml hv
  obtain ⟨rfl, hP, hK, hN⟩ := hv
  have hx := B.exec
  have hb := B.bytes
  have hr := B.returns
  have hts := atoms_spec (ws := (Cond.code yX9_feed cX9_feed 4 (some .int) :: gT)) B.pre
  have hT : ∀ w ∈ gT, w.before _ s = true := fun w hw => hts w (List.mem_cons_of_mem _ hw)
  have hown : s.vm.findClass RX9 = some m.cls := findClass_of_methodNamed B.named
  have hlocks := B.notSynchronized
  have hS : va_S (mA X) s.heap s.heap [] := va_S.rf
  have hl := lv_entry ([.ref (xB X 0), .int a1, .int a2]) (n := 4) (Nat.le_of_ble_eq_true rfl)
  rw [lg_entry_eq]
  generalize (lg_sl ([.ref (xB X 0), .int a1, .int a2]) ++ List.replicate (4 - (lg_sl ([.ref (xB X 0), .int a1, .int a2])).length) Slot.unset).toArray = ls at hl ⊢
  have hl : lv_has ls 4 [(0, .ref (xB X 0)), (1, .int a1), (2, .int a2)] := hl
  rw [X9_feed] at h
  refine lv_aload_n hx hb dX9_feed_0 rfl (lv_at hl 0 rfl) ?_
  refine lv_iload_n hx hb dX9_feed_1 rfl (lv_at hl 1 rfl) ?_
  obtain ⟨r2, hc2, h⟩ := Option.bind_eq_some_iff.mp h
  refine rcV (As := [.int a1]) (rest := []) ⟨hx, hb, hml, hown, hts⟩ (c_X9_isOne l X mi ml ma mb a1 hc2) ⟨w_986, w_988, w_18, w_58, w_989⟩ hd_X9_isOne rfl rfl ⟨(Nat.le_of_ble_eq_true rfl), (Nat.le_of_ble_eq_true rfl)⟩ ⟨Nat.zero_le _, Nat.zero_le _⟩ mPre_blind (va_recv hK hP (ci := 5) rfl cM_o) (mPre_call hP hK hN) rfl rfl hl.1 (Nat.le_of_ble_eq_true rfl) dX9_feed_2 ?_
  refine lv_if_eq (tgt := 21) hx hb dX9_feed_5 (by decide) (fun c5 => ?_) (fun c5 => ?_)
  · replace h := if_t c5 h
    refine lv_iconst (v := -1) hx hb dX9_feed_21 (by decide) ?_
    cases h
    exact W.iret hx hb hr (fun t ht _ => ⟨rfl, ht⟩) (fun _ hq => by cases hq) dX9_feed_22
  · replace h := if_f c5 h
    refine lv_aload_n hx hb dX9_feed_8 rfl (lv_at hl 0 rfl) ?_
    refine lv_iload_n hx hb dX9_feed_9 rfl (lv_at hl 2 rfl) ?_
    obtain ⟨r10, hc10, h⟩ := Option.bind_eq_some_iff.mp h
    refine rcV (As := [.int a2]) (rest := []) ⟨hx, hb, hml, hown, hts⟩ (c_X9_isOne l X mi ml ma mb a2 hc10) ⟨w_986, w_988, w_18, w_58, w_989⟩ hd_X9_isOne rfl rfl ⟨(Nat.le_of_ble_eq_true rfl), (Nat.le_of_ble_eq_true rfl)⟩ ⟨Nat.zero_le _, Nat.zero_le _⟩ mPre_blind (va_recv hK hP (ci := 5) rfl cM_o) (mPre_call hP hK hN) rfl rfl hl.1 (Nat.le_of_ble_eq_true rfl) dX9_feed_10 ?_
    refine lv_if_eq (tgt := 21) hx hb dX9_feed_13 (by decide) (fun c13 => ?_) (fun c13 => ?_)
    · replace h := if_t c13 h
      refine lv_iconst (v := -1) hx hb dX9_feed_21 (by decide) ?_
      cases h
      exact W.iret hx hb hr (fun t ht _ => ⟨rfl, ht⟩) (fun _ hq => by cases hq) dX9_feed_22
    · replace h := if_f c13 h
      refine lv_iload_n hx hb dX9_feed_16 rfl (lv_at hl 1 rfl) ?_
      refine lv_iload_n hx hb dX9_feed_17 rfl (lv_at hl 2 rfl) ?_
      refine lv_icmp_ne (tgt := 23) hx hb dX9_feed_18 (by decide) (fun c18 => ?_) (fun c18 => ?_)
      · replace h := if_f c18 h
        refine lv_aload_n hx hb dX9_feed_23 rfl (lv_at hl 0 rfl) ?_
        refine lv_iload_n hx hb dX9_feed_24 rfl (lv_at hl 1 rfl) ?_
        obtain ⟨r25, hc25, h⟩ := Option.bind_eq_some_iff.mp h
        refine rcV (As := [.int a1]) (rest := []) ⟨hx, hb, hml, hown, hts⟩ (c_X9_isStuck l X mi ml ma mb a1 hc25) ⟨w_1026, w_1028, w_27, w_58, w_1029⟩ hd_X9_isStuck rfl rfl ⟨(Nat.le_of_ble_eq_true rfl), (Nat.le_of_ble_eq_true rfl)⟩ ⟨Nat.zero_le _, Nat.zero_le _⟩ mPre_blind (va_recv hK hP (ci := 5) rfl cM_o) (mPre_call hP hK hN) rfl rfl hl.1 (Nat.le_of_ble_eq_true rfl) dX9_feed_25 ?_
        refine lv_if_eq (tgt := 39) hx hb dX9_feed_28 (by decide) (fun c28 => ?_) (fun c28 => ?_)
        · replace h := if_t c28 h
          refine lv_bipush (v := -4) hx hb dX9_feed_39 (by decide) ?_
          cases h
          exact W.iret hx hb hr (fun t ht _ => ⟨rfl, ht⟩) (fun _ hq => by cases hq) dX9_feed_41
        · replace h := if_f c28 h
          refine lv_aload_n hx hb dX9_feed_31 rfl (lv_at hl 0 rfl) ?_
          refine lv_iload_n hx hb dX9_feed_32 rfl (lv_at hl 2 rfl) ?_
          obtain ⟨r33, hc33, h⟩ := Option.bind_eq_some_iff.mp h
          refine rcV (As := [.int a2]) (rest := []) ⟨hx, hb, hml, hown, hts⟩ (c_X9_isStuck l X mi ml ma mb a2 hc33) ⟨w_1026, w_1028, w_27, w_58, w_1029⟩ hd_X9_isStuck rfl rfl ⟨(Nat.le_of_ble_eq_true rfl), (Nat.le_of_ble_eq_true rfl)⟩ ⟨Nat.zero_le _, Nat.zero_le _⟩ mPre_blind (va_recv hK hP (ci := 5) rfl cM_o) (mPre_call hP hK hN) rfl rfl hl.1 (Nat.le_of_ble_eq_true rfl) dX9_feed_33 ?_
          refine lv_if_ne (tgt := 42) hx hb dX9_feed_36 (by decide) (fun c36 => ?_) (fun c36 => ?_)
          · replace h := if_f c36 h
            refine lv_aload_n hx hb dX9_feed_42 rfl (lv_at hl 0 rfl) ?_
            refine lv_iload_n hx hb dX9_feed_43 rfl (lv_at hl 1 rfl) ?_
            refine lv_iload_n hx hb dX9_feed_44 rfl (lv_at hl 2 rfl) ?_
            obtain ⟨r45, hc45, h⟩ := Option.bind_eq_some_iff.mp h
            refine rcV (As := [.int a1, .int a2]) (rest := []) ⟨hx, hb, hml, hown, hts⟩ (c_X9_passings l X mi ml ma mb a1 a2 hc45) ⟨w_1042, w_1044, w_30, w_58, w_1045⟩ hd_X9_passings rfl rfl ⟨(Nat.le_of_ble_eq_true rfl), (Nat.le_of_ble_eq_true rfl)⟩ ⟨Nat.zero_le _, Nat.zero_le _⟩ mPre_blind (va_recv hK hP (ci := 5) rfl cM_o) (mPre_call hP hK hN) rfl rfl hl.1 (Nat.le_of_ble_eq_true rfl) dX9_feed_45 ?_
            refine lv_istore_n (lv' := [(3, .int r45), (0, .ref (xB X 0)), (1, .int a1), (2, .int a2)]) hx hb dX9_feed_48 rfl hl (by decide) rfl (fun ls hl => ?_)
            refine lv_iload_n hx hb dX9_feed_49 rfl (lv_at hl 0 rfl) ?_
            refine lv_if_ge (tgt := 58) hx hb dX9_feed_50 (by decide) (fun c50 => ?_) (fun c50 => ?_)
            · replace h := if_t c50 h
              refine lv_iload_n hx hb dX9_feed_58 rfl (lv_at hl 0 rfl) ?_
              cases h
              exact W.iret hx hb hr (fun t ht _ => ⟨rfl, ht⟩) (fun _ hq => by cases hq) dX9_feed_59
            · replace h := if_f c50 h
              refine lv_bipush (v := -9) hx hb dX9_feed_53 (by decide) ?_
              refine lv_goto (tgt := 59) hx hb dX9_feed_55 (by decide) ?_
              cases h
              exact W.iret hx hb hr (fun t ht _ => ⟨rfl, ht⟩) (fun _ hq => by cases hq) dX9_feed_59
          · replace h := if_t c36 h
            refine lv_bipush (v := -4) hx hb dX9_feed_39 (by decide) ?_
            cases h
            exact W.iret hx hb hr (fun t ht _ => ⟨rfl, ht⟩) (fun _ hq => by cases hq) dX9_feed_41
      · replace h := if_t c18 h
        refine lv_iconst (v := -1) hx hb dX9_feed_21 (by decide) ?_
        cases h
        exact W.iret hx hb hr (fun t ht _ => ⟨rfl, ht⟩) (fun _ hq => by cases hq) dX9_feed_22
set_option maxRecDepth 100000 in
set_option maxHeartbeats 4000000 in
theorem c_X9_spoons (l : Launch) (X : gX) (mi : Nat → Int32) (ml : Nat → Int64) (ma : Nat → Nat → Int32) (mb : Nat → Nat → Int64) {o0 : Int32} {o_mi : Nat → Int32} (h : X9_spoons ma mi = some (o0, o_mi)) : Met l yX9_spoons (Cond.code yX9_spoons cX9_spoons 6 (some .int) :: gT) { frames := 3, cells := 0, slots := 0, locals := 72 } (va_Pc [.ref (xB X 0)] (mPre X mi ml ma mb)) (wQ (some (.int o0)) (fun H => va_P X.1 vwCl (cM X o_mi ml ma mb) H) (mA X)) 0 0 (mA X) := by
  refine Met.ofW (cc := cX9_spoons) (maxL := 6) (ret := (some .int)) (by decide) rfl ?_
  intro p e s m args below meth c s₁ B hml hv
  obtain ⟨rfl, hP, hK, hN⟩ := hv
  have hx := B.exec
  have hb := B.bytes
  have hr := B.returns
  have hts := atoms_spec (ws := (Cond.code yX9_spoons cX9_spoons 6 (some .int) :: gT)) B.pre
  have hT : ∀ w ∈ gT, w.before _ s = true := fun w hw => hts w (List.mem_cons_of_mem _ hw)
  have hown : s.vm.findClass RX9 = some m.cls := findClass_of_methodNamed B.named
  have hlocks := B.notSynchronized
  have hS : va_S (mA X) s.heap s.heap [] := va_S.rf
  have hl := lv_entry ([.ref (xB X 0)]) (n := 6) (Nat.le_of_ble_eq_true rfl)
  rw [lg_entry_eq]
  generalize (lg_sl ([.ref (xB X 0)]) ++ List.replicate (6 - (lg_sl ([.ref (xB X 0)])).length) Slot.unset).toArray = ls at hl ⊢
  have hl : lv_has ls 6 [(0, .ref (xB X 0))] := hl
  have hL9 : ∀ (n9 : Nat) (v1 : Int32) (v2 : Int32) (v3 : Int32) (mi : Nat → Int32) (H : Heap) (locs : List Loc) (ls : Array Slot), lv_has ls 6 [(0, .ref (xB X 0)), (1, .int v1), (2, .int v2), (3, .int v3)] → va_P X.1 vwCl (cM X mi ml ma mb) H → va_S (mA X) s.heap H locs → X9_spoons_9 ma n9 v1 v2 v3 mi = some (o0, o_mi) → W p l e (headSpec (Cond.code yX9_spoons cX9_spoons 6 (some .int) :: gT) { frames := 3, cells := 0, slots := 0, locals := 72 }).room s m [.ref (xB X 0)].toArray below meth c H locs 0 0 (MQ below (wQ (some (.int o0)) (fun H => va_P X.1 vwCl (cM X o_mi ml ma mb) H) (mA X)) [.ref (xB X 0)].toArray s 0 0 (mA X)) (F0 m 9 ls []) := by
    intro n9
    induction n9 with
    | zero =>
      intro v1 v2 v3 mi H locs ls hl hP hS h
      rw [X9_spoons_9] at h
      cases h
    | succ n9 ih9 =>
      intro v1 v2 v3 mi H locs ls hl hP hS h
      rw [X9_spoons_9] at h
      have hL109 : ∀ (v1 : Int32) (v2 : Int32) (v3 : Int32) (mi : Nat → Int32) (H : Heap) (locs : List Loc) (ls : Array Slot), lv_has ls 6 [(0, .ref (xB X 0)), (1, .int v1), (2, .int v2), (3, .int v3)] → va_P X.1 vwCl (cM X mi ml ma mb) H → va_S (mA X) s.heap H locs → X9_spoons_109 ma (X9_spoons_9 ma n9) v1 v2 v3 mi = some (o0, o_mi) → W p l e (headSpec (Cond.code yX9_spoons cX9_spoons 6 (some .int) :: gT) { frames := 3, cells := 0, slots := 0, locals := 72 }).room s m [.ref (xB X 0)].toArray below meth c H locs 0 0 (MQ below (wQ (some (.int o0)) (fun H => va_P X.1 vwCl (cM X o_mi ml ma mb) H) (mA X)) [.ref (xB X 0)].toArray s 0 0 (mA X)) (F0 m 109 ls []) := by
        intro v1 v2 v3 mi H locs ls hl hP hS h
        rw [X9_spoons_109] at h
        refine lv_iconst (v := 0) hx hb dX9_spoons_109 (by decide) ?_
        refine lv_istore (lv' := [(5, .int (0 : Int32)), (0, .ref (xB X 0)), (1, .int v1), (2, .int v2), (3, .int v3)]) hx hb dX9_spoons_110 hl (by decide) rfl (fun ls hl => ?_)
        refine lv_iload hx hb dX9_spoons_112 (lv_at hl 0 rfl) ?_
        refine lv_if_eq (tgt := 121) hx hb dX9_spoons_114 (by decide) (fun c114 => ?_) (fun c114 => ?_)
        · replace h := if_t c114 h
          refine lv_iload_n hx hb dX9_spoons_121 rfl (lv_at hl 3 rfl) ?_
          refine lv_istore_n (lv' := [(2, .int v2), (5, .int (0 : Int32)), (0, .ref (xB X 0)), (1, .int v1), (3, .int v3)]) hx hb dX9_spoons_122 rfl hl (by decide) rfl (fun ls hl => ?_)
          refine lv_iinc (v := (v3 + (1 : Int32))) (lv' := [(3, .int (v3 + (1 : Int32))), (2, .int v2), (5, .int (0 : Int32)), (0, .ref (xB X 0)), (1, .int v1)]) hx hb dX9_spoons_123 hl (k := 4) rfl rfl (by decide) rfl (fun ls hl => ?_)
          refine lv_goto (tgt := 9) hx hb dX9_spoons_126 (by decide) ?_
          exact ih9 v1 v2 (v3 + (1 : Int32)) mi _ _ ls (lv_sub hl [3, 4, 1, 0] rfl) hP hS h
        · replace h := if_f c114 h
          refine lv_iload_n hx hb dX9_spoons_117 rfl (lv_at hl 4 rfl) ?_
          refine lv_goto (tgt := 122) hx hb dX9_spoons_118 (by decide) ?_
          refine lv_istore_n (lv' := [(2, .int v3), (5, .int (0 : Int32)), (0, .ref (xB X 0)), (1, .int v1), (3, .int v3)]) hx hb dX9_spoons_122 rfl hl (by decide) rfl (fun ls hl => ?_)
          refine lv_iinc (v := (v3 + (1 : Int32))) (lv' := [(3, .int (v3 + (1 : Int32))), (2, .int v3), (5, .int (0 : Int32)), (0, .ref (xB X 0)), (1, .int v1)]) hx hb dX9_spoons_123 hl (k := 4) rfl rfl (by decide) rfl (fun ls hl => ?_)
          refine lv_goto (tgt := 9) hx hb dX9_spoons_126 (by decide) ?_
          exact ih9 v1 v3 (v3 + (1 : Int32)) mi _ _ ls (lv_sub hl [3, 4, 1, 0] rfl) hP hS h
      have hL25 : ∀ (n25 : Nat) (v1 : Int32) (v2 : Int32) (v3 : Int32) (v4 : Int32) (v5 : Int32) (mi : Nat → Int32) (H : Heap) (locs : List Loc) (ls : Array Slot), lv_has ls 6 [(0, .ref (xB X 0)), (1, .int v1), (2, .int v2), (3, .int v3), (4, .int v4), (5, .int v5)] → va_P X.1 vwCl (cM X mi ml ma mb) H → va_S (mA X) s.heap H locs → X9_spoons_25 ma (X9_spoons_9 ma n9) n25 v1 v2 v3 v4 v5 mi = some (o0, o_mi) → W p l e (headSpec (Cond.code yX9_spoons cX9_spoons 6 (some .int) :: gT) { frames := 3, cells := 0, slots := 0, locals := 72 }).room s m [.ref (xB X 0)].toArray below meth c H locs 0 0 (MQ below (wQ (some (.int o0)) (fun H => va_P X.1 vwCl (cM X o_mi ml ma mb) H) (mA X)) [.ref (xB X 0)].toArray s 0 0 (mA X)) (F0 m 25 ls []) := by
        intro n25
        induction n25 with
        | zero =>
          intro v1 v2 v3 v4 v5 mi H locs ls hl hP hS h
          rw [X9_spoons_25] at h
          cases h
        | succ n25 ih25 =>
          intro v1 v2 v3 v4 v5 mi H locs ls hl hP hS h
          rw [X9_spoons_25] at h
          refine lv_iload hx hb dX9_spoons_25 (lv_at hl 5 rfl) ?_
          refine lv_aload_n hx hb dX9_spoons_27 rfl (lv_at hl 0 rfl) ?_
          refine rg_M_people hx hb hT hown hK hP w_779 dX9_spoons_28 ?_
          refine lv_icmp_ge (tgt := 64) hx hb dX9_spoons_31 (by decide) (fun c31 => ?_) (fun c31 => ?_)
          · replace h := if_t c31 h
            refine lv_iload_n hx hb dX9_spoons_64 rfl (lv_at hl 3 rfl) ?_
            refine lv_iload_n hx hb dX9_spoons_65 rfl (lv_at hl 1 rfl) ?_
            refine lv_iconst (v := -1) hx hb dX9_spoons_66 (by decide) ?_
            refine lv_ixor hx hb dX9_spoons_67 ?_
            refine lv_iand hx hb dX9_spoons_68 ?_
            refine lv_if_ne (tgt := 109) hx hb dX9_spoons_69 (by decide) (fun c69 => ?_) (fun c69 => ?_)
            · replace h := if_f c69 h
              exact hL109 v1 v2 v3 mi _ _ ls (lv_sub hl [0, 1, 2, 3] rfl) hP hS h
            · replace h := if_t c69 h
              refine lv_iload hx hb dX9_spoons_72 (lv_at hl 4 rfl) ?_
              refine lv_iload_n hx hb dX9_spoons_74 rfl (lv_at hl 1 rfl) ?_
              refine lv_icmp_ne (tgt := 109) hx hb dX9_spoons_75 (by decide) (fun c75 => ?_) (fun c75 => ?_)
              · replace h := if_f c75 h
                exact hL109 v1 v2 v3 mi _ _ ls (lv_sub hl [0, 1, 2, 3] rfl) hP hS h
              · replace h := if_t c75 h
                refine lv_iload_n hx hb dX9_spoons_78 rfl (lv_at hl 3 rfl) ?_
                obtain ⟨r79, hc79, h⟩ := Option.bind_eq_some_iff.mp h
                refine rcS (As := [.int v3]) (rest := []) ⟨hx, hb, hml, hown, hts⟩ (c_X9_bits l v3 hc79) ⟨w_1030, w_1031, w_58, w_1032⟩ hd_X9_bits rfl rfl ⟨(Nat.le_of_ble_eq_true rfl), (Nat.le_of_ble_eq_true rfl)⟩ ⟨Nat.zero_le _, Nat.zero_le _⟩ (fun _ _ _ _ h => h) (fun _ _ _ => trivial) rfl rfl hl.1 (Nat.le_of_ble_eq_true rfl) dX9_spoons_79 ?_
                refine lv_iload_n hx hb dX9_spoons_82 rfl (lv_at hl 2 rfl) ?_
                obtain ⟨r83, hc83, h⟩ := Option.bind_eq_some_iff.mp h
                refine rcS (As := [.int v2]) (rest := [.int r79]) ⟨hx, hb, hml, hown, hts⟩ (c_X9_bits l v2 hc83) ⟨w_1030, w_1031, w_58, w_1032⟩ hd_X9_bits rfl rfl ⟨(Nat.le_of_ble_eq_true rfl), (Nat.le_of_ble_eq_true rfl)⟩ ⟨Nat.zero_le _, Nat.zero_le _⟩ (fun _ _ _ _ h => h) (fun _ _ _ => trivial) rfl rfl hl.1 (Nat.le_of_ble_eq_true rfl) dX9_spoons_83 ?_
                refine lv_icmp_lt (tgt := 105) hx hb dX9_spoons_86 (by decide) (fun c86 => ?_) (fun c86 => ?_)
                · replace h := if_t c86 h
                  refine lv_iconst (v := 1) hx hb dX9_spoons_105 (by decide) ?_
                  refine lv_goto (tgt := 110) hx hb dX9_spoons_106 (by decide) ?_
                  refine lv_istore (lv' := [(5, .int (1 : Int32)), (0, .ref (xB X 0)), (1, .int v1), (2, .int v2), (3, .int v3), (4, .int v4)]) hx hb dX9_spoons_110 hl (by decide) rfl (fun ls hl => ?_)
                  refine lv_iload hx hb dX9_spoons_112 (lv_at hl 0 rfl) ?_
                  refine lv_if_eq (tgt := 121) hx hb dX9_spoons_114 (by decide) (fun c114 => ?_) (fun c114 => ?_)
                  · replace h := if_t c114 h
                    refine lv_iload_n hx hb dX9_spoons_121 rfl (lv_at hl 3 rfl) ?_
                    refine lv_istore_n (lv' := [(2, .int v2), (5, .int (1 : Int32)), (0, .ref (xB X 0)), (1, .int v1), (3, .int v3), (4, .int v4)]) hx hb dX9_spoons_122 rfl hl (by decide) rfl (fun ls hl => ?_)
                    refine lv_iinc (v := (v3 + (1 : Int32))) (lv' := [(3, .int (v3 + (1 : Int32))), (2, .int v2), (5, .int (1 : Int32)), (0, .ref (xB X 0)), (1, .int v1), (4, .int v4)]) hx hb dX9_spoons_123 hl (k := 4) rfl rfl (by decide) rfl (fun ls hl => ?_)
                    refine lv_goto (tgt := 9) hx hb dX9_spoons_126 (by decide) ?_
                    exact ih9 v1 v2 (v3 + (1 : Int32)) mi _ _ ls (lv_sub hl [3, 4, 1, 0] rfl) hP hS h
                  · replace h := if_f c114 h
                    refine lv_iload_n hx hb dX9_spoons_117 rfl (lv_at hl 4 rfl) ?_
                    refine lv_goto (tgt := 122) hx hb dX9_spoons_118 (by decide) ?_
                    refine lv_istore_n (lv' := [(2, .int v3), (5, .int (1 : Int32)), (0, .ref (xB X 0)), (1, .int v1), (3, .int v3), (4, .int v4)]) hx hb dX9_spoons_122 rfl hl (by decide) rfl (fun ls hl => ?_)
                    refine lv_iinc (v := (v3 + (1 : Int32))) (lv' := [(3, .int (v3 + (1 : Int32))), (2, .int v3), (5, .int (1 : Int32)), (0, .ref (xB X 0)), (1, .int v1), (4, .int v4)]) hx hb dX9_spoons_123 hl (k := 4) rfl rfl (by decide) rfl (fun ls hl => ?_)
                    refine lv_goto (tgt := 9) hx hb dX9_spoons_126 (by decide) ?_
                    exact ih9 v1 v3 (v3 + (1 : Int32)) mi _ _ ls (lv_sub hl [3, 4, 1, 0] rfl) hP hS h
                · replace h := if_f c86 h
                  refine lv_iload_n hx hb dX9_spoons_89 rfl (lv_at hl 3 rfl) ?_
                  obtain ⟨r90, hc90, h⟩ := Option.bind_eq_some_iff.mp h
                  refine rcS (As := [.int v3]) (rest := []) ⟨hx, hb, hml, hown, hts⟩ (c_X9_bits l v3 hc90) ⟨w_1030, w_1031, w_58, w_1032⟩ hd_X9_bits rfl rfl ⟨(Nat.le_of_ble_eq_true rfl), (Nat.le_of_ble_eq_true rfl)⟩ ⟨Nat.zero_le _, Nat.zero_le _⟩ (fun _ _ _ _ h => h) (fun _ _ _ => trivial) rfl rfl hl.1 (Nat.le_of_ble_eq_true rfl) dX9_spoons_90 ?_
                  refine lv_iload_n hx hb dX9_spoons_93 rfl (lv_at hl 2 rfl) ?_
                  obtain ⟨r94, hc94, h⟩ := Option.bind_eq_some_iff.mp h
                  refine rcS (As := [.int v2]) (rest := [.int r90]) ⟨hx, hb, hml, hown, hts⟩ (c_X9_bits l v2 hc94) ⟨w_1030, w_1031, w_58, w_1032⟩ hd_X9_bits rfl rfl ⟨(Nat.le_of_ble_eq_true rfl), (Nat.le_of_ble_eq_true rfl)⟩ ⟨Nat.zero_le _, Nat.zero_le _⟩ (fun _ _ _ _ h => h) (fun _ _ _ => trivial) rfl rfl hl.1 (Nat.le_of_ble_eq_true rfl) dX9_spoons_94 ?_
                  refine lv_icmp_ne (tgt := 109) hx hb dX9_spoons_97 (by decide) (fun c97 => ?_) (fun c97 => ?_)
                  · replace h := if_f c97 h
                    exact hL109 v1 v2 v3 mi _ _ ls (lv_sub hl [0, 1, 2, 3] rfl) hP hS h
                  · replace h := if_t c97 h
                    refine lv_iload_n hx hb dX9_spoons_100 rfl (lv_at hl 3 rfl) ?_
                    refine lv_iload_n hx hb dX9_spoons_101 rfl (lv_at hl 2 rfl) ?_
                    refine lv_icmp_ge (tgt := 109) hx hb dX9_spoons_102 (by decide) (fun c102 => ?_) (fun c102 => ?_)
                    · replace h := if_t c102 h
                      exact hL109 v1 v2 v3 mi _ _ ls (lv_sub hl [0, 1, 2, 3] rfl) hP hS h
                    · replace h := if_f c102 h
                      refine lv_iconst (v := 1) hx hb dX9_spoons_105 (by decide) ?_
                      refine lv_goto (tgt := 110) hx hb dX9_spoons_106 (by decide) ?_
                      refine lv_istore (lv' := [(5, .int (1 : Int32)), (0, .ref (xB X 0)), (1, .int v1), (2, .int v2), (3, .int v3), (4, .int v4)]) hx hb dX9_spoons_110 hl (by decide) rfl (fun ls hl => ?_)
                      refine lv_iload hx hb dX9_spoons_112 (lv_at hl 0 rfl) ?_
                      refine lv_if_eq (tgt := 121) hx hb dX9_spoons_114 (by decide) (fun c114 => ?_) (fun c114 => ?_)
                      · replace h := if_t c114 h
                        refine lv_iload_n hx hb dX9_spoons_121 rfl (lv_at hl 3 rfl) ?_
                        refine lv_istore_n (lv' := [(2, .int v2), (5, .int (1 : Int32)), (0, .ref (xB X 0)), (1, .int v1), (3, .int v3), (4, .int v4)]) hx hb dX9_spoons_122 rfl hl (by decide) rfl (fun ls hl => ?_)
                        refine lv_iinc (v := (v3 + (1 : Int32))) (lv' := [(3, .int (v3 + (1 : Int32))), (2, .int v2), (5, .int (1 : Int32)), (0, .ref (xB X 0)), (1, .int v1), (4, .int v4)]) hx hb dX9_spoons_123 hl (k := 4) rfl rfl (by decide) rfl (fun ls hl => ?_)
                        refine lv_goto (tgt := 9) hx hb dX9_spoons_126 (by decide) ?_
                        exact ih9 v1 v2 (v3 + (1 : Int32)) mi _ _ ls (lv_sub hl [3, 4, 1, 0] rfl) hP hS h
                      · replace h := if_f c114 h
                        refine lv_iload_n hx hb dX9_spoons_117 rfl (lv_at hl 4 rfl) ?_
                        refine lv_goto (tgt := 122) hx hb dX9_spoons_118 (by decide) ?_
                        refine lv_istore_n (lv' := [(2, .int v3), (5, .int (1 : Int32)), (0, .ref (xB X 0)), (1, .int v1), (3, .int v3), (4, .int v4)]) hx hb dX9_spoons_122 rfl hl (by decide) rfl (fun ls hl => ?_)
                        refine lv_iinc (v := (v3 + (1 : Int32))) (lv' := [(3, .int (v3 + (1 : Int32))), (2, .int v3), (5, .int (1 : Int32)), (0, .ref (xB X 0)), (1, .int v1), (4, .int v4)]) hx hb dX9_spoons_123 hl (k := 4) rfl rfl (by decide) rfl (fun ls hl => ?_)
                        refine lv_goto (tgt := 9) hx hb dX9_spoons_126 (by decide) ?_
                        exact ih9 v1 v3 (v3 + (1 : Int32)) mi _ _ ls (lv_sub hl [3, 4, 1, 0] rfl) hP hS h
          · replace h := if_f c31 h
            refine lv_iload hx hb dX9_spoons_34 (lv_at hl 4 rfl) ?_
            refine lv_iload_n hx hb dX9_spoons_36 rfl (lv_at hl 3 rfl) ?_
            refine lv_iload hx hb dX9_spoons_37 (lv_at hl 5 rfl) ?_
            obtain ⟨r39, hc39, h⟩ := Option.bind_eq_some_iff.mp h
            refine rcS (As := [.int v3, .int v5]) (rest := [.int v4]) ⟨hx, hb, hml, hown, hts⟩ (c_X9_has l v3 v5 hc39) ⟨w_1104, w_1105, w_58, w_1106⟩ hd_X9_has rfl rfl ⟨(Nat.le_of_ble_eq_true rfl), (Nat.le_of_ble_eq_true rfl)⟩ ⟨Nat.zero_le _, Nat.zero_le _⟩ (fun _ _ _ _ h => h) (fun _ _ _ => trivial) rfl rfl hl.1 (Nat.le_of_ble_eq_true rfl) dX9_spoons_39 ?_
            refine lv_if_eq (tgt := 54) hx hb dX9_spoons_42 (by decide) (fun c42 => ?_) (fun c42 => ?_)
            · replace h := if_t c42 h
              refine lv_iconst (v := 0) hx hb dX9_spoons_54 (by decide) ?_
              refine lv_ior hx hb dX9_spoons_55 ?_
              refine lv_istore (lv' := [(4, .int (v4 ||| (0 : Int32))), (0, .ref (xB X 0)), (1, .int v1), (2, .int v2), (3, .int v3), (5, .int v5)]) hx hb dX9_spoons_56 hl (by decide) rfl (fun ls hl => ?_)
              refine lv_iinc (v := (v5 + (1 : Int32))) (lv' := [(5, .int (v5 + (1 : Int32))), (4, .int (v4 ||| (0 : Int32))), (0, .ref (xB X 0)), (1, .int v1), (2, .int v2), (3, .int v3)]) hx hb dX9_spoons_58 hl (k := 5) rfl rfl (by decide) rfl (fun ls hl => ?_)
              refine lv_goto (tgt := 25) hx hb dX9_spoons_61 (by decide) ?_
              exact ih25 v1 v2 v3 (v4 ||| (0 : Int32)) (v5 + (1 : Int32)) mi _ _ ls (lv_sub hl [2, 3, 4, 5, 1, 0] rfl) hP hS h
            · replace h := if_f c42 h
              refine lv_aload_n hx hb dX9_spoons_45 rfl (lv_at hl 0 rfl) ?_
              refine lv_iload hx hb dX9_spoons_46 (lv_at hl 5 rfl) ?_
              obtain ⟨r48, hc48, h⟩ := Option.bind_eq_some_iff.mp h
              refine rcV (As := [.int v5]) (rest := [.int v4]) ⟨hx, hb, hml, hown, hts⟩ (c_X9_fedBy l X mi ml ma mb v5 hc48) ⟨w_1038, w_1040, w_29, w_58, w_1041⟩ hd_X9_fedBy rfl rfl ⟨(Nat.le_of_ble_eq_true rfl), (Nat.le_of_ble_eq_true rfl)⟩ ⟨Nat.zero_le _, Nat.zero_le _⟩ mPre_blind (va_recv hK hP (ci := 5) rfl cM_o) (mPre_call hP hK hN) rfl rfl hl.1 (Nat.le_of_ble_eq_true rfl) dX9_spoons_48 ?_
              refine lv_goto (tgt := 55) hx hb dX9_spoons_51 (by decide) ?_
              refine lv_ior hx hb dX9_spoons_55 ?_
              refine lv_istore (lv' := [(4, .int (v4 ||| r48)), (0, .ref (xB X 0)), (1, .int v1), (2, .int v2), (3, .int v3), (5, .int v5)]) hx hb dX9_spoons_56 hl (by decide) rfl (fun ls hl => ?_)
              refine lv_iinc (v := (v5 + (1 : Int32))) (lv' := [(5, .int (v5 + (1 : Int32))), (4, .int (v4 ||| r48)), (0, .ref (xB X 0)), (1, .int v1), (2, .int v2), (3, .int v3)]) hx hb dX9_spoons_58 hl (k := 5) rfl rfl (by decide) rfl (fun ls hl => ?_)
              refine lv_goto (tgt := 25) hx hb dX9_spoons_61 (by decide) ?_
              exact ih25 v1 v2 v3 (v4 ||| r48) (v5 + (1 : Int32)) mi _ _ ls (lv_sub hl [2, 3, 4, 5, 1, 0] rfl) hP hS h
      refine lv_iload_n hx hb dX9_spoons_9 rfl (lv_at hl 3 rfl) ?_
      refine lv_iconst (v := 1) hx hb dX9_spoons_10 (by decide) ?_
      refine lv_aload_n hx hb dX9_spoons_11 rfl (lv_at hl 0 rfl) ?_
      refine rg_M_people hx hb hT hown hK hP w_779 dX9_spoons_12 ?_
      refine lv_ishl hx hb dX9_spoons_15 ?_
      refine lv_icmp_ge (tgt := 129) hx hb dX9_spoons_16 (by decide) (fun c16 => ?_) (fun c16 => ?_)
      · replace h := if_t c16 h
        refine lv_aload_n hx hb dX9_spoons_129 rfl (lv_at hl 0 rfl) ?_
        refine lv_iload_n hx hb dX9_spoons_130 rfl (lv_at hl 2 rfl) ?_
        refine rp_M_asked hx hb hT hown hK hP hN hS w_791 dX9_spoons_131 (fun H locs hP hS => ?_)
        generalize emi_131 : va_up mi 3 v2 = mi_131 at hP
        replace h := lt_g h emi_131
        refine lv_iload_n hx hb dX9_spoons_134 rfl (lv_at hl 2 rfl) ?_
        obtain ⟨r135, hc135, h⟩ := Option.bind_eq_some_iff.mp h
        refine rcS (As := [.int v2]) (rest := []) ⟨hx, hb, hml, hown, hts⟩ (c_X9_bits l v2 hc135) ⟨w_1030, w_1031, w_58, w_1032⟩ hd_X9_bits rfl rfl ⟨(Nat.le_of_ble_eq_true rfl), (Nat.le_of_ble_eq_true rfl)⟩ ⟨Nat.zero_le _, Nat.zero_le _⟩ (fun _ _ _ _ h => h) (fun _ _ _ => trivial) rfl rfl hl.1 (Nat.le_of_ble_eq_true rfl) dX9_spoons_135 ?_
        cases h
        exact W.iret hx hb hr (fun t ht _ => ⟨rfl, by rw [ht]; exact hP, hS.F ht⟩) hS.2.2 dX9_spoons_138
      · replace h := if_f c16 h
        refine lv_iload_n hx hb dX9_spoons_19 rfl (lv_at hl 3 rfl) ?_
        refine lv_istore (lv' := [(4, .int v3), (0, .ref (xB X 0)), (1, .int v1), (2, .int v2), (3, .int v3)]) hx hb dX9_spoons_20 hl (by decide) rfl (fun ls hl => ?_)
        refine lv_iconst (v := 0) hx hb dX9_spoons_22 (by decide) ?_
        refine lv_istore (lv' := [(5, .int (0 : Int32)), (4, .int v3), (0, .ref (xB X 0)), (1, .int v1), (2, .int v2), (3, .int v3)]) hx hb dX9_spoons_23 hl (by decide) rfl (fun ls hl => ?_)
        exact hL25 500 v1 v2 v3 v3 (0 : Int32) mi _ _ ls (lv_sub hl [2, 3, 4, 5, 1, 0] rfl) hP hS h
  rw [X9_spoons] at h
  refine lv_aload_n hx hb dX9_spoons_0 rfl (lv_at hl 0 rfl) ?_
  obtain ⟨r1, hc1, h⟩ := Option.bind_eq_some_iff.mp h
  refine rcV (As := []) (rest := []) ⟨hx, hb, hml, hown, hts⟩ (c_X9_stuckSet l X mi ml ma mb hc1) ⟨w_1022, w_1024, w_26, w_58, w_1025⟩ hd_X9_stuckSet rfl rfl ⟨(Nat.le_of_ble_eq_true rfl), (Nat.le_of_ble_eq_true rfl)⟩ ⟨Nat.zero_le _, Nat.zero_le _⟩ mPre_blind (va_recv hK hP (ci := 5) rfl cM_o) (mPre_call hP hK hN) rfl rfl hl.1 (Nat.le_of_ble_eq_true rfl) dX9_spoons_1 ?_
  refine lv_istore_n (lv' := [(1, .int r1), (0, .ref (xB X 0))]) hx hb dX9_spoons_4 rfl hl (by decide) rfl (fun ls hl => ?_)
  refine lv_iload_n hx hb dX9_spoons_5 rfl (lv_at hl 0 rfl) ?_
  refine lv_istore_n (lv' := [(2, .int r1), (1, .int r1), (0, .ref (xB X 0))]) hx hb dX9_spoons_6 rfl hl (by decide) rfl (fun ls hl => ?_)
  refine lv_iconst (v := 0) hx hb dX9_spoons_7 (by decide) ?_
  refine lv_istore_n (lv' := [(3, .int (0 : Int32)), (2, .int r1), (1, .int r1), (0, .ref (xB X 0))]) hx hb dX9_spoons_8 rfl hl (by decide) rfl (fun ls hl => ?_)
  exact hL9 500 r1 r1 (0 : Int32) mi _ _ ls (lv_sub hl [3, 2, 1, 0] rfl) hP hS h
