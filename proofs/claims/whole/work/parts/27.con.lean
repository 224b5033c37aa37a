set_option maxRecDepth 100000 in
set_option maxHeartbeats 4000000 in
theorem c_X9_in (l : Launch) (a0 : Int64) (a2 : Int64) (a4 : Int64) {o0 : Int32} (h : X9_in a0 a2 a4 = some o0) : Met l yX9_in (Cond.code yX9_in cX9_in 6 (some .boolean) :: gT) { frames := 0, cells := 0, slots := 0, locals := 0 } (va_Pc [.long a0, .long a2, .long a4] (fun _ => True)) (k2_QcV (.int o0)) 0 0 (fun _ => False) := by
  refine Met.ofW (cc := cX9_in) (maxL := 6) (ret := (some .boolean)) (by decide) rfl ?_
  intro p e s m args below meth c s₁ B hml hv
  obtain ⟨rfl, -⟩ := hv
  have hx := B.exec
  have hb := B.bytes
  have hr := B.returns
  have hts := atoms_spec (ws := (Cond.code yX9_in cX9_in 6 (some .boolean) :: gT)) B.pre
  have hT : ∀ w ∈ gT, w.before _ s = true := fun w hw => hts w (List.mem_cons_of_mem _ hw)
  have hown : s.vm.findClass RX9 = some m.cls := findClass_of_methodNamed B.named
  have hlocks := B.notSynchronized
  have hl := lv_entry ([.long a0, .long a2, .long a4]) (n := 6) (Nat.le_of_ble_eq_true rfl)
  rw [lg_entry_eq]
  generalize (lg_sl ([.long a0, .long a2, .long a4]) ++ List.replicate (6 - (lg_sl ([.long a0, .long a2, .long a4])).length) Slot.unset).toArray = ls at hl ⊢
  have hl : lv_has ls 6 [(0, .long a0), (2, .long a2), (4, .long a4)] := hl
  rw [X9_in] at h
  refine lv_lload_n hx hb dX9_in_0 rfl (lv_at hl 0 rfl) ?_
  refine lv_lload_n hx hb dX9_in_1 rfl (lv_at hl 1 rfl) ?_
  refine W.lcmp hx hb dX9_in_2 ?_
  refine lv_if_lt (tgt := 17) hx hb dX9_in_3 (by decide) (fun c3 => ?_) (fun c3 => ?_)
  · replace h := if_t c3 h
    refine lv_iconst (v := 0) hx hb dX9_in_17 (by decide) ?_
    cases h
    exact W.zret (ty := .boolean) hx hb hr rfl (fun t ht _ => ⟨rfl, ht⟩) (fun _ hq => by cases hq) dX9_in_18
  · replace h := if_f c3 h
    refine lv_lload_n hx hb dX9_in_6 rfl (lv_at hl 0 rfl) ?_
    refine lv_lload hx hb dX9_in_7 (lv_at hl 2 rfl) ?_
    refine W.lcmp hx hb dX9_in_9 ?_
    refine lv_if_gt (tgt := 17) hx hb dX9_in_10 (by decide) (fun c10 => ?_) (fun c10 => ?_)
    · replace h := if_t c10 h
      refine lv_iconst (v := 0) hx hb dX9_in_17 (by decide) ?_
      cases h
      exact W.zret (ty := .boolean) hx hb hr rfl (fun t ht _ => ⟨rfl, ht⟩) (fun _ hq => by cases hq) dX9_in_18
    · replace h := if_f c10 h
      refine lv_iconst (v := 1) hx hb dX9_in_13 (by decide) ?_
      refine lv_goto (tgt := 18) hx hb dX9_in_14 (by decide) ?_
      cases h
      exact W.zret (ty := .boolean) hx hb hr rfl (fun t ht _ => ⟨rfl, ht⟩) (fun _ hq => by cases hq) dX9_in_18
set_option maxRecDepth 100000 in
set_option maxHeartbeats 4000000 in
theorem c_X9_has (l : Launch) (a0 : Int32) (a1 : Int32) {o0 : Int32} (h : X9_has a0 a1 = some o0) : Met l yX9_has (Cond.code yX9_has cX9_has 2 (some .boolean) :: gT) { frames := 0, cells := 0, slots := 0, locals := 0 } (va_Pc [.int a0, .int a1] (fun _ => True)) (k2_QcV (.int o0)) 0 0 (fun _ => False) := by
  refine Met.ofW (cc := cX9_has) (maxL := 2) (ret := (some .boolean)) (by decide) rfl ?_
  intro p e s m args below meth c s₁ B hml hv
  obtain ⟨rfl, -⟩ := hv
  have hx := B.exec
  have hb := B.bytes
  have hr := B.returns
  have hts := atoms_spec (ws := (Cond.code yX9_has cX9_has 2 (some .boolean) :: gT)) B.pre
  have hT : ∀ w ∈ gT, w.before _ s = true := fun w hw => hts w (List.mem_cons_of_mem _ hw)
  have hown : s.vm.findClass RX9 = some m.cls := findClass_of_methodNamed B.named
  have hlocks := B.notSynchronized
  have hl := lv_entry ([.int a0, .int a1]) (n := 2) (Nat.le_of_ble_eq_true rfl)
  rw [lg_entry_eq]
  generalize (lg_sl ([.int a0, .int a1]) ++ List.replicate (2 - (lg_sl ([.int a0, .int a1])).length) Slot.unset).toArray = ls at hl ⊢
  have hl : lv_has ls 2 [(0, .int a0), (1, .int a1)] := hl
  rw [X9_has] at h
  refine lv_iload_n hx hb dX9_has_0 rfl (lv_at hl 0 rfl) ?_
  refine lv_iload_n hx hb dX9_has_1 rfl (lv_at hl 1 rfl) ?_
  refine lv_ishr hx hb dX9_has_2 ?_
  refine lv_iconst (v := 1) hx hb dX9_has_3 (by decide) ?_
  refine lv_iand hx hb dX9_has_4 ?_
  refine lv_iconst (v := 1) hx hb dX9_has_5 (by decide) ?_
  refine lv_icmp_ne (tgt := 13) hx hb dX9_has_6 (by decide) (fun c6 => ?_) (fun c6 => ?_)
  · replace h := if_f c6 h
    refine lv_iconst (v := 0) hx hb dX9_has_13 (by decide) ?_
    cases h
    exact W.zret (ty := .boolean) hx hb hr rfl (fun t ht _ => ⟨rfl, ht⟩) (fun _ hq => by cases hq) dX9_has_14
  · replace h := if_t c6 h
    refine lv_iconst (v := 1) hx hb dX9_has_9 (by decide) ?_
    refine lv_goto (tgt := 14) hx hb dX9_has_10 (by decide) ?_
    cases h
    exact W.zret (ty := .boolean) hx hb hr rfl (fun t ht _ => ⟨rfl, ht⟩) (fun _ hq => by cases hq) dX9_has_14
set_option maxRecDepth 100000 in
set_option maxHeartbeats 4000000 in
theorem c_X9_bits (l : Launch) (a0 : Int32) {o0 : Int32} (h : X9_bits a0 = some o0) : Met l yX9_bits (Cond.code yX9_bits cX9_bits 3 (some .int) :: gT) { frames := 0, cells := 0, slots := 0, locals := 0 } (va_Pc [.int a0] (fun _ => True)) (k2_QcV (.int o0)) 0 0 (fun _ => False) := by
  refine Met.ofW (cc := cX9_bits) (maxL := 3) (ret := (some .int)) (by decide) rfl ?_
  intro p e s m args below meth c s₁ B hml hv
  obtain ⟨rfl, -⟩ := hv
  have hx := B.exec
  have hb := B.bytes
  have hr := B.returns
  have hts := atoms_spec (ws := (Cond.code yX9_bits cX9_bits 3 (some .int) :: gT)) B.pre
  have hT : ∀ w ∈ gT, w.before _ s = true := fun w hw => hts w (List.mem_cons_of_mem _ hw)
  have hown : s.vm.findClass RX9 = some m.cls := findClass_of_methodNamed B.named
  have hlocks := B.notSynchronized
  have hl := lv_entry ([.int a0]) (n := 3) (Nat.le_of_ble_eq_true rfl)
  rw [lg_entry_eq]
  generalize (lg_sl ([.int a0]) ++ List.replicate (3 - (lg_sl ([.int a0])).length) Slot.unset).toArray = ls at hl ⊢
  have hl : lv_has ls 3 [(0, .int a0)] := hl
  have hL4 : ∀ (n4 : Nat) (v0 : Int32) (v1 : Int32) (v2 : Int32) (ls : Array Slot), lv_has ls 3 [(0, .int v0), (1, .int v1), (2, .int v2)] → X9_bits_4 n4 v0 v1 v2 = some o0 → W p l e (headSpec (Cond.code yX9_bits cX9_bits 3 (some .int) :: gT) { frames := 0, cells := 0, slots := 0, locals := 0 }).room s m [.int a0].toArray below meth c s.heap [] 0 0 (MQ below (k2_QcV (.int o0)) [.int a0].toArray s 0 0 (fun _ => False)) (F0 m 4 ls []) := by
    intro n4
    induction n4 with
    | zero =>
      intro v0 v1 v2 ls hl h
      rw [X9_bits_4] at h
      cases h
    | succ n4 ih4 =>
      intro v0 v1 v2 ls hl h
      rw [X9_bits_4] at h
      refine lv_iload_n hx hb dX9_bits_4 rfl (lv_at hl 2 rfl) ?_
      refine lv_bipush (v := 7) hx hb dX9_bits_5 (by decide) ?_
      refine lv_icmp_ge (tgt := 24) hx hb dX9_bits_7 (by decide) (fun c7 => ?_) (fun c7 => ?_)
      · replace h := if_t c7 h
        refine lv_iload_n hx hb dX9_bits_24 rfl (lv_at hl 1 rfl) ?_
        cases h
        exact W.iret hx hb hr (fun t ht _ => ⟨rfl, ht⟩) (fun _ hq => by cases hq) dX9_bits_25
      · replace h := if_f c7 h
        refine lv_iload_n hx hb dX9_bits_10 rfl (lv_at hl 1 rfl) ?_
        refine lv_iload_n hx hb dX9_bits_11 rfl (lv_at hl 0 rfl) ?_
        refine lv_iload_n hx hb dX9_bits_12 rfl (lv_at hl 2 rfl) ?_
        refine lv_ishr hx hb dX9_bits_13 ?_
        refine lv_iconst (v := 1) hx hb dX9_bits_14 (by decide) ?_
        refine lv_iand hx hb dX9_bits_15 ?_
        refine lv_iadd hx hb dX9_bits_16 ?_
        refine lv_istore_n (lv' := [(1, .int (v1 + ((v0 >>> (v2 &&& 31)) &&& (1 : Int32)))), (0, .int v0), (2, .int v2)]) hx hb dX9_bits_17 rfl hl (by decide) rfl (fun ls hl => ?_)
        refine lv_iinc (v := (v2 + (1 : Int32))) (lv' := [(2, .int (v2 + (1 : Int32))), (1, .int (v1 + ((v0 >>> (v2 &&& 31)) &&& (1 : Int32)))), (0, .int v0)]) hx hb dX9_bits_18 hl (k := 2) rfl rfl (by decide) rfl (fun ls hl => ?_)
        refine lv_goto (tgt := 4) hx hb dX9_bits_21 (by decide) ?_
        exact ih4 v0 (v1 + ((v0 >>> (v2 &&& 31)) &&& (1 : Int32))) (v2 + (1 : Int32)) ls (lv_sub hl [2, 1, 0] rfl) h
  rw [X9_bits] at h
  refine lv_iconst (v := 0) hx hb dX9_bits_0 (by decide) ?_
  refine lv_istore_n (lv' := [(1, .int (0 : Int32)), (0, .int a0)]) hx hb dX9_bits_1 rfl hl (by decide) rfl (fun ls hl => ?_)
  refine lv_iconst (v := 0) hx hb dX9_bits_2 (by decide) ?_
  refine lv_istore_n (lv' := [(2, .int (0 : Int32)), (1, .int (0 : Int32)), (0, .int a0)]) hx hb dX9_bits_3 rfl hl (by decide) rfl (fun ls hl => ?_)
  exact hL4 500 a0 (0 : Int32) (0 : Int32) ls (lv_sub hl [2, 1, 0] rfl) h
set_option maxRecDepth 100000 in
set_option maxHeartbeats 4000000 in
theorem c_X9_isRow (l : Launch) (a0 : Int32) {o0 : Int32} (h : X9_isRow a0 = some o0) : Met l yX9_isRow (Cond.code yX9_isRow cX9_isRow 1 (some .boolean) :: gT) { frames := 1, cells := 0, slots := 0, locals := 25 } (va_Pc [.int a0] (fun _ => True)) (k2_QcV (.int o0)) 0 0 (fun _ => False) := by
  refine Met.ofW (cc := cX9_isRow) (maxL := 1) (ret := (some .boolean)) (by decide) rfl ?_
  intro p e s m args below meth c s₁ B hml hv
  obtain ⟨rfl, -⟩ := hv
  have hx := B.exec
  have hb := B.bytes
  have hr := B.returns
  have hts := atoms_spec (ws := (Cond.code yX9_isRow cX9_isRow 1 (some .boolean) :: gT)) B.pre
  have hT : ∀ w ∈ gT, w.before _ s = true := fun w hw => hts w (List.mem_cons_of_mem _ hw)
  have hown : s.vm.findClass RX9 = some m.cls := findClass_of_methodNamed B.named
  have hlocks := B.notSynchronized
  have hl := lv_entry ([.int a0]) (n := 1) (Nat.le_of_ble_eq_true rfl)
  rw [lg_entry_eq]
  generalize (lg_sl ([.int a0]) ++ List.replicate (1 - (lg_sl ([.int a0])).length) Slot.unset).toArray = ls at hl ⊢
  have hl : lv_has ls 1 [(0, .int a0)] := hl
  rw [X9_isRow] at h
  refine lv_iload_n hx hb dX9_isRow_0 rfl (lv_at hl 0 rfl) ?_
  refine lv_i2l hx hb dX9_isRow_1 rfl ?_
  refine lv_lconst (v := 0) hx hb dX9_isRow_2 (by decide) ?_
  refine lv_ldc2 (v := 5) hx hb hown (hT _ w_911) dX9_isRow_3 ?_
  obtain ⟨r6, hc6, h⟩ := Option.bind_eq_some_iff.mp h
  refine rcS (As := [.long a0.toInt64, .long (0 : Int64), .long (5 : Int64)]) (rest := []) ⟨hx, hb, hml, hown, hts⟩ (c_X9_in l a0.toInt64 (0 : Int64) (5 : Int64) hc6) ⟨w_912, w_913, w_58, w_914⟩ hd_X9_in rfl rfl ⟨(Nat.le_of_ble_eq_true rfl), (Nat.le_of_ble_eq_true rfl)⟩ ⟨Nat.zero_le _, Nat.zero_le _⟩ (fun _ _ _ _ h => h) (fun _ _ _ => trivial) rfl rfl hl.1 (Nat.le_of_ble_eq_true rfl) dX9_isRow_6 ?_
  obtain ⟨hz9, h⟩ := gd_e h
  cases h
  exact W.zret (ty := .boolean) hx hb hr (nar01 (of_decide_eq_true hz9)) (fun t ht _ => ⟨rfl, ht⟩) (fun _ hq => by cases hq) dX9_isRow_9
set_option maxRecDepth 100000 in
set_option maxHeartbeats 4000000 in
theorem c_X9_isText (l : Launch) (a0 : Int32) {o0 : Int32} (h : X9_isText a0 = some o0) : Met l yX9_isText (Cond.code yX9_isText cX9_isText 1 (some .boolean) :: gT) { frames := 1, cells := 0, slots := 0, locals := 25 } (va_Pc [.int a0] (fun _ => True)) (k2_QcV (.int o0)) 0 0 (fun _ => False) := by
  refine Met.ofW (cc := cX9_isText) (maxL := 1) (ret := (some .boolean)) (by decide) rfl ?_
  intro p e s m args below meth c s₁ B hml hv
  obtain ⟨rfl, -⟩ := hv
  have hx := B.exec
  have hb := B.bytes
  have hr := B.returns
  have hts := atoms_spec (ws := (Cond.code yX9_isText cX9_isText 1 (some .boolean) :: gT)) B.pre
  have hT : ∀ w ∈ gT, w.before _ s = true := fun w hw => hts w (List.mem_cons_of_mem _ hw)
  have hown : s.vm.findClass RX9 = some m.cls := findClass_of_methodNamed B.named
  have hlocks := B.notSynchronized
  have hl := lv_entry ([.int a0]) (n := 1) (Nat.le_of_ble_eq_true rfl)
  rw [lg_entry_eq]
  generalize (lg_sl ([.int a0]) ++ List.replicate (1 - (lg_sl ([.int a0])).length) Slot.unset).toArray = ls at hl ⊢
  have hl : lv_has ls 1 [(0, .int a0)] := hl
  rw [X9_isText] at h
  refine lv_iload_n hx hb dX9_isText_0 rfl (lv_at hl 0 rfl) ?_
  refine lv_i2l hx hb dX9_isText_1 rfl ?_
  refine lv_lconst (v := 0) hx hb dX9_isText_2 (by decide) ?_
  refine lv_ldc2 (v := 3) hx hb hown (hT _ w_946) dX9_isText_3 ?_
  obtain ⟨r6, hc6, h⟩ := Option.bind_eq_some_iff.mp h
  refine rcS (As := [.long a0.toInt64, .long (0 : Int64), .long (3 : Int64)]) (rest := []) ⟨hx, hb, hml, hown, hts⟩ (c_X9_in l a0.toInt64 (0 : Int64) (3 : Int64) hc6) ⟨w_912, w_913, w_58, w_914⟩ hd_X9_in rfl rfl ⟨(Nat.le_of_ble_eq_true rfl), (Nat.le_of_ble_eq_true rfl)⟩ ⟨Nat.zero_le _, Nat.zero_le _⟩ (fun _ _ _ _ h => h) (fun _ _ _ => trivial) rfl rfl hl.1 (Nat.le_of_ble_eq_true rfl) dX9_isText_6 ?_
  obtain ⟨hz9, h⟩ := gd_e h
  cases h
  exact W.zret (ty := .boolean) hx hb hr (nar01 (of_decide_eq_true hz9)) (fun t ht _ => ⟨rfl, ht⟩) (fun _ hq => by cases hq) dX9_isText_9
set_option maxRecDepth 100000 in
set_option maxHeartbeats 4000000 in
theorem c_X9_kindOf (l : Launch) (a0 : Int32) {o0 : Int32} (h : X9_kindOf a0 = some o0) : Met l yX9_kindOf (Cond.code yX9_kindOf cX9_kindOf 1 (some .int) :: gT) { frames := 0, cells := 0, slots := 0, locals := 0 } (va_Pc [.int a0] (fun _ => True)) (k2_QcV (.int o0)) 0 0 (fun _ => False) := by
  refine Met.ofW (cc := cX9_kindOf) (maxL := 1) (ret := (some .int)) (by decide) rfl ?_
  intro p e s m args below meth c s₁ B hml hv
  obtain ⟨rfl, -⟩ := hv
  have hx := B.exec
  have hb := B.bytes
  have hr := B.returns
  have hts := atoms_spec (ws := (Cond.code yX9_kindOf cX9_kindOf 1 (some .int) :: gT)) B.pre
  have hT : ∀ w ∈ gT, w.before _ s = true := fun w hw => hts w (List.mem_cons_of_mem _ hw)
  have hown : s.vm.findClass RX9 = some m.cls := findClass_of_methodNamed B.named
  have hlocks := B.notSynchronized
  have hl := lv_entry ([.int a0]) (n := 1) (Nat.le_of_ble_eq_true rfl)
  rw [lg_entry_eq]
  generalize (lg_sl ([.int a0]) ++ List.replicate (1 - (lg_sl ([.int a0])).length) Slot.unset).toArray = ls at hl ⊢
  have hl : lv_has ls 1 [(0, .int a0)] := hl
  rw [X9_kindOf] at h
  refine lv_iload_n hx hb dX9_kindOf_0 rfl (lv_at hl 0 rfl) ?_
  refine lv_bipush (v := 111) hx hb dX9_kindOf_1 (by decide) ?_
  refine lv_icmp_ne (tgt := 10) hx hb dX9_kindOf_3 (by decide) (fun c3 => ?_) (fun c3 => ?_)
  · replace h := if_f c3 h
    refine lv_iload_n hx hb dX9_kindOf_10 rfl (lv_at hl 0 rfl) ?_
    refine lv_bipush (v := 103) hx hb dX9_kindOf_11 (by decide) ?_
    refine lv_icmp_ne (tgt := 20) hx hb dX9_kindOf_13 (by decide) (fun c13 => ?_) (fun c13 => ?_)
    · replace h := if_f c13 h
      refine lv_iload_n hx hb dX9_kindOf_20 rfl (lv_at hl 0 rfl) ?_
      refine lv_bipush (v := 115) hx hb dX9_kindOf_21 (by decide) ?_
      refine lv_icmp_ne (tgt := 30) hx hb dX9_kindOf_23 (by decide) (fun c23 => ?_) (fun c23 => ?_)
      · replace h := if_f c23 h
        refine lv_iload_n hx hb dX9_kindOf_30 rfl (lv_at hl 0 rfl) ?_
        refine lv_bipush (v := 99) hx hb dX9_kindOf_31 (by decide) ?_
        refine lv_icmp_ne (tgt := 40) hx hb dX9_kindOf_33 (by decide) (fun c33 => ?_) (fun c33 => ?_)
        · replace h := if_f c33 h
          refine lv_iload_n hx hb dX9_kindOf_40 rfl (lv_at hl 0 rfl) ?_
          refine lv_bipush (v := 112) hx hb dX9_kindOf_41 (by decide) ?_
          refine lv_icmp_ne (tgt := 50) hx hb dX9_kindOf_43 (by decide) (fun c43 => ?_) (fun c43 => ?_)
          · replace h := if_f c43 h
            refine lv_iload_n hx hb dX9_kindOf_50 rfl (lv_at hl 0 rfl) ?_
            refine lv_bipush (v := 107) hx hb dX9_kindOf_51 (by decide) ?_
            refine lv_icmp_ne (tgt := 60) hx hb dX9_kindOf_53 (by decide) (fun c53 => ?_) (fun c53 => ?_)
            · replace h := if_f c53 h
              refine lv_iconst (v := -1) hx hb dX9_kindOf_60 (by decide) ?_
              cases h
              exact W.iret hx hb hr (fun t ht _ => ⟨rfl, ht⟩) (fun _ hq => by cases hq) dX9_kindOf_61
            · replace h := if_t c53 h
              refine lv_iconst (v := 5) hx hb dX9_kindOf_56 (by decide) ?_
              refine lv_goto (tgt := 61) hx hb dX9_kindOf_57 (by decide) ?_
              cases h
              exact W.iret hx hb hr (fun t ht _ => ⟨rfl, ht⟩) (fun _ hq => by cases hq) dX9_kindOf_61
          · replace h := if_t c43 h
            refine lv_iconst (v := 4) hx hb dX9_kindOf_46 (by decide) ?_
            refine lv_goto (tgt := 61) hx hb dX9_kindOf_47 (by decide) ?_
            cases h
            exact W.iret hx hb hr (fun t ht _ => ⟨rfl, ht⟩) (fun _ hq => by cases hq) dX9_kindOf_61
        · replace h := if_t c33 h
          refine lv_iconst (v := 3) hx hb dX9_kindOf_36 (by decide) ?_
          refine lv_goto (tgt := 61) hx hb dX9_kindOf_37 (by decide) ?_
          cases h
          exact W.iret hx hb hr (fun t ht _ => ⟨rfl, ht⟩) (fun _ hq => by cases hq) dX9_kindOf_61
      · replace h := if_t c23 h
        refine lv_iconst (v := 2) hx hb dX9_kindOf_26 (by decide) ?_
        refine lv_goto (tgt := 61) hx hb dX9_kindOf_27 (by decide) ?_
        cases h
        exact W.iret hx hb hr (fun t ht _ => ⟨rfl, ht⟩) (fun _ hq => by cases hq) dX9_kindOf_61
    · replace h := if_t c13 h
      refine lv_iconst (v := 1) hx hb dX9_kindOf_16 (by decide) ?_
      refine lv_goto (tgt := 61) hx hb dX9_kindOf_17 (by decide) ?_
      cases h
      exact W.iret hx hb hr (fun t ht _ => ⟨rfl, ht⟩) (fun _ hq => by cases hq) dX9_kindOf_61
  · replace h := if_t c3 h
    refine lv_iconst (v := 0) hx hb dX9_kindOf_6 (by decide) ?_
    refine lv_goto (tgt := 61) hx hb dX9_kindOf_7 (by decide) ?_
    cases h
    exact W.iret hx hb hr (fun t ht _ => ⟨rfl, ht⟩) (fun _ hq => by cases hq) dX9_kindOf_61
set_option maxRecDepth 100000 in
set_option maxHeartbeats 4000000 in
theorem c_X9_lowest (l : Launch) (a0 : Int32) {o0 : Int32} (h : X9_lowest a0 = some o0) : Met l yX9_lowest (Cond.code yX9_lowest cX9_lowest 2 (some .int) :: gT) { frames := 1, cells := 0, slots := 0, locals := 21 } (va_Pc [.int a0] (fun _ => True)) (k2_QcV (.int o0)) 0 0 (fun _ => False) := by
  refine Met.ofW (cc := cX9_lowest) (maxL := 2) (ret := (some .int)) (by decide) rfl ?_
  intro p e s m args below meth c s₁ B hml hv
  obtain ⟨rfl, -⟩ := hv
  have hx := B.exec
  have hb := B.bytes
  have hr := B.returns
  have hts := atoms_spec (ws := (Cond.code yX9_lowest cX9_lowest 2 (some .int) :: gT)) B.pre
  have hT : ∀ w ∈ gT, w.before _ s = true := fun w hw => hts w (List.mem_cons_of_mem _ hw)
  have hown : s.vm.findClass RX9 = some m.cls := findClass_of_methodNamed B.named
  have hlocks := B.notSynchronized
  have hl := lv_entry ([.int a0]) (n := 2) (Nat.le_of_ble_eq_true rfl)
  rw [lg_entry_eq]
  generalize (lg_sl ([.int a0]) ++ List.replicate (2 - (lg_sl ([.int a0])).length) Slot.unset).toArray = ls at hl ⊢
  have hl : lv_has ls 2 [(0, .int a0)] := hl
  have hL2 : ∀ (n2 : Nat) (v0 : Int32) (v1 : Int32) (ls : Array Slot), lv_has ls 2 [(0, .int v0), (1, .int v1)] → X9_lowest_2 n2 v0 v1 = some o0 → W p l e (headSpec (Cond.code yX9_lowest cX9_lowest 2 (some .int) :: gT) { frames := 1, cells := 0, slots := 0, locals := 21 }).room s m [.int a0].toArray below meth c s.heap [] 0 0 (MQ below (k2_QcV (.int o0)) [.int a0].toArray s 0 0 (fun _ => False)) (F0 m 2 ls []) := by
    intro n2
    induction n2 with
    | zero =>
      intro v0 v1 ls hl h
      rw [X9_lowest_2] at h
      cases h
    | succ n2 ih2 =>
      intro v0 v1 ls hl h
      rw [X9_lowest_2] at h
      refine lv_iload_n hx hb dX9_lowest_2 rfl (lv_at hl 0 rfl) ?_
      refine lv_iload_n hx hb dX9_lowest_3 rfl (lv_at hl 1 rfl) ?_
      obtain ⟨r4, hc4, h⟩ := Option.bind_eq_some_iff.mp h
      refine rcS (As := [.int v0, .int v1]) (rest := []) ⟨hx, hb, hml, hown, hts⟩ (c_X9_has l v0 v1 hc4) ⟨w_1104, w_1105, w_58, w_1106⟩ hd_X9_has rfl rfl ⟨(Nat.le_of_ble_eq_true rfl), (Nat.le_of_ble_eq_true rfl)⟩ ⟨Nat.zero_le _, Nat.zero_le _⟩ (fun _ _ _ _ h => h) (fun _ _ _ => trivial) rfl rfl hl.1 (Nat.le_of_ble_eq_true rfl) dX9_lowest_4 ?_
      refine lv_if_ne (tgt := 16) hx hb dX9_lowest_7 (by decide) (fun c7 => ?_) (fun c7 => ?_)
      · replace h := if_f c7 h
        refine lv_iload_n hx hb dX9_lowest_16 rfl (lv_at hl 1 rfl) ?_
        cases h
        exact W.iret hx hb hr (fun t ht _ => ⟨rfl, ht⟩) (fun _ hq => by cases hq) dX9_lowest_17
      · replace h := if_t c7 h
        refine lv_iinc (v := (v1 + (1 : Int32))) (lv' := [(1, .int (v1 + (1 : Int32))), (0, .int v0)]) hx hb dX9_lowest_10 hl (k := 1) rfl rfl (by decide) rfl (fun ls hl => ?_)
        refine lv_goto (tgt := 2) hx hb dX9_lowest_13 (by decide) ?_
        exact ih2 v0 (v1 + (1 : Int32)) ls (lv_sub hl [1, 0] rfl) h
  rw [X9_lowest] at h
  refine lv_iconst (v := 0) hx hb dX9_lowest_0 (by decide) ?_
  refine lv_istore_n (lv' := [(1, .int (0 : Int32)), (0, .int a0)]) hx hb dX9_lowest_1 rfl hl (by decide) rfl (fun ls hl => ?_)
  exact hL2 500 a0 (0 : Int32) ls (lv_sub hl [1, 0] rfl) h
set_option maxRecDepth 100000 in
set_option maxHeartbeats 4000000 in
theorem c_X9_areNumbers (l : Launch) (a0 : Int32) (a1 : Int32) {o0 : Int32} (h : X9_areNumbers a0 a1 = some o0) : Met l yX9_areNumbers (Cond.code yX9_areNumbers cX9_areNumbers 2 (some .boolean) :: gT) { frames := 1, cells := 0, slots := 0, locals := 25 } (va_Pc [.int a0, .int a1] (fun _ => True)) (k2_QcV (.int o0)) 0 0 (fun _ => False) := by
  refine Met.ofW (cc := cX9_areNumbers) (maxL := 2) (ret := (some .boolean)) (by decide) rfl ?_
  intro p e s m args below meth c s₁ B hml hv
  obtain ⟨rfl, -⟩ := hv
  have hx := B.exec
  have hb := B.bytes
  have hr := B.returns
  have hts := atoms_spec (ws := (Cond.code yX9_areNumbers cX9_areNumbers 2 (some .boolean) :: gT)) B.pre
  have hT : ∀ w ∈ gT, w.before _ s = true := fun w hw => hts w (List.mem_cons_of_mem _ hw)
  have hown : s.vm.findClass RX9 = some m.cls := findClass_of_methodNamed B.named
  have hlocks := B.notSynchronized
  have hl := lv_entry ([.int a0, .int a1]) (n := 2) (Nat.le_of_ble_eq_true rfl)
  rw [lg_entry_eq]
  generalize (lg_sl ([.int a0, .int a1]) ++ List.replicate (2 - (lg_sl ([.int a0, .int a1])).length) Slot.unset).toArray = ls at hl ⊢
  have hl : lv_has ls 2 [(0, .int a0), (1, .int a1)] := hl
  rw [X9_areNumbers] at h
  refine lv_iload_n hx hb dX9_areNumbers_0 rfl (lv_at hl 0 rfl) ?_
  refine lv_i2l hx hb dX9_areNumbers_1 rfl ?_
  refine lv_lconst (v := 0) hx hb dX9_areNumbers_2 (by decide) ?_
  refine lv_ldc2 (v := 7) hx hb hown (hT _ w_1124) dX9_areNumbers_3 ?_
  obtain ⟨r6, hc6, h⟩ := Option.bind_eq_some_iff.mp h
  refine rcS (As := [.long a0.toInt64, .long (0 : Int64), .long (7 : Int64)]) (rest := []) ⟨hx, hb, hml, hown, hts⟩ (c_X9_in l a0.toInt64 (0 : Int64) (7 : Int64) hc6) ⟨w_912, w_913, w_58, w_914⟩ hd_X9_in rfl rfl ⟨(Nat.le_of_ble_eq_true rfl), (Nat.le_of_ble_eq_true rfl)⟩ ⟨Nat.zero_le _, Nat.zero_le _⟩ (fun _ _ _ _ h => h) (fun _ _ _ => trivial) rfl rfl hl.1 (Nat.le_of_ble_eq_true rfl) dX9_areNumbers_6 ?_
  refine lv_if_eq (tgt := 28) hx hb dX9_areNumbers_9 (by decide) (fun c9 => ?_) (fun c9 => ?_)
  · replace h := if_t c9 h
    refine lv_iconst (v := 0) hx hb dX9_areNumbers_28 (by decide) ?_
    cases h
    exact W.zret (ty := .boolean) hx hb hr rfl (fun t ht _ => ⟨rfl, ht⟩) (fun _ hq => by cases hq) dX9_areNumbers_29
  · replace h := if_f c9 h
    refine lv_iload_n hx hb dX9_areNumbers_12 rfl (lv_at hl 1 rfl) ?_
    refine lv_i2l hx hb dX9_areNumbers_13 rfl ?_
    refine lv_lconst (v := 0) hx hb dX9_areNumbers_14 (by decide) ?_
    refine lv_ldc2 (v := 7) hx hb hown (hT _ w_1124) dX9_areNumbers_15 ?_
    obtain ⟨r18, hc18, h⟩ := Option.bind_eq_some_iff.mp h
    refine rcS (As := [.long a1.toInt64, .long (0 : Int64), .long (7 : Int64)]) (rest := []) ⟨hx, hb, hml, hown, hts⟩ (c_X9_in l a1.toInt64 (0 : Int64) (7 : Int64) hc18) ⟨w_912, w_913, w_58, w_914⟩ hd_X9_in rfl rfl ⟨(Nat.le_of_ble_eq_true rfl), (Nat.le_of_ble_eq_true rfl)⟩ ⟨Nat.zero_le _, Nat.zero_le _⟩ (fun _ _ _ _ h => h) (fun _ _ _ => trivial) rfl rfl hl.1 (Nat.le_of_ble_eq_true rfl) dX9_areNumbers_18 ?_
    refine lv_if_eq (tgt := 28) hx hb dX9_areNumbers_21 (by decide) (fun c21 => ?_) (fun c21 => ?_)
    · replace h := if_t c21 h
      refine lv_iconst (v := 0) hx hb dX9_areNumbers_28 (by decide) ?_
      cases h
      exact W.zret (ty := .boolean) hx hb hr rfl (fun t ht _ => ⟨rfl, ht⟩) (fun _ hq => by cases hq) dX9_areNumbers_29
    · replace h := if_f c21 h
      refine lv_iconst (v := 1) hx hb dX9_areNumbers_24 (by decide) ?_
      refine lv_goto (tgt := 29) hx hb dX9_areNumbers_25 (by decide) ?_
      cases h
      exact W.zret (ty := .boolean) hx hb hr rfl (fun t ht _ => ⟨rfl, ht⟩) (fun _ hq => by cases hq) dX9_areNumbers_29
set_option maxRecDepth 100000 in
set_option maxHeartbeats 4000000 in
theorem c_X9_there_10 (l : Launch) (X : gX) (mi : Nat → Int32) (ml : Nat → Int64) (ma : Nat → Nat → Int32) (mb : Nat → Nat → Int64) {o0 : Int32} (h : X9_there_10 ma = some o0) : Met l yX9_there (Cond.code yX9_there cX9_there 3 (some .int) :: gT) { frames := 0, cells := 0, slots := 0, locals := 0 } (va_Pc [.ref (xB X 11)] (mPre X mi ml ma mb)) (k2_QcV (.int o0)) 0 0 (fun _ => False) := by
  refine Met.ofW (cc := cX9_there) (maxL := 3) (ret := (some .int)) (by decide) rfl ?_
  intro p e s m args below meth c s₁ B hml hv
  obtain ⟨rfl, hP, hK, hN⟩ := hv
  have hx := B.exec
  have hb := B.bytes
  have hr := B.returns
  have hts := atoms_spec (ws := (Cond.code yX9_there cX9_there 3 (some .int) :: gT)) B.pre
  have hT : ∀ w ∈ gT, w.before _ s = true := fun w hw => hts w (List.mem_cons_of_mem _ hw)
  have hown : s.vm.findClass RX9 = some m.cls := findClass_of_methodNamed B.named
  have hlocks := B.notSynchronized
  have hS : va_S (mA X) s.heap s.heap [] := va_S.rf
  have hl := lv_entry ([.ref (xB X 11)]) (n := 3) (Nat.le_of_ble_eq_true rfl)
  rw [lg_entry_eq]
  generalize (lg_sl ([.ref (xB X 11)]) ++ List.replicate (3 - (lg_sl ([.ref (xB X 11)])).length) Slot.unset).toArray = ls at hl ⊢
  have hl : lv_has ls 3 [(0, .ref (xB X 11))] := hl
  have hL4 : ∀ (n4 : Nat) (v1 : Int32) (v2 : Int32) (ls : Array Slot), lv_has ls 3 [(0, .ref (xB X 11)), (1, .int v1), (2, .int v2)] → X9_there_10_4 ma n4 v1 v2 = some o0 → W p l e (headSpec (Cond.code yX9_there cX9_there 3 (some .int) :: gT) { frames := 0, cells := 0, slots := 0, locals := 0 }).room s m [.ref (xB X 11)].toArray below meth c s.heap [] 0 0 (MQ below (k2_QcV (.int o0)) [.ref (xB X 11)].toArray s 0 0 (fun _ => False)) (F0 m 4 ls []) := by
    intro n4
    induction n4 with
    | zero =>
      intro v1 v2 ls hl h
      rw [X9_there_10_4] at h
      cases h
    | succ n4 ih4 =>
      intro v1 v2 ls hl h
      rw [X9_there_10_4] at h
      refine lv_iload_n hx hb dX9_there_4 rfl (lv_at hl 2 rfl) ?_
      refine lv_aload_n hx hb dX9_there_5 rfl (lv_at hl 0 rfl) ?_
      refine rl_m10 hx hb hK hP dX9_there_6 ?_
      refine lv_icmp_ge (tgt := 30) hx hb dX9_there_7 (by decide) (fun c7 => ?_) (fun c7 => ?_)
      · replace h := if_t c7 h
        refine lv_iload_n hx hb dX9_there_30 rfl (lv_at hl 1 rfl) ?_
        cases h
        exact W.iret hx hb hr (fun t ht _ => ⟨rfl, ht⟩) (fun _ hq => by cases hq) dX9_there_31
      · replace h := if_f c7 h
        refine lv_iload_n hx hb dX9_there_10 rfl (lv_at hl 1 rfl) ?_
        refine lv_aload_n hx hb dX9_there_11 rfl (lv_at hl 0 rfl) ?_
        refine lv_iload_n hx hb dX9_there_12 rfl (lv_at hl 2 rfl) ?_
        obtain ⟨hi13, h⟩ := gd_e h
        refine ra_m10 hx hb hK hP (ib_in hi13) dX9_there_13 ?_
        refine lv_if_ge (tgt := 21) hx hb dX9_there_14 (by decide) (fun c14 => ?_) (fun c14 => ?_)
        · replace h := if_t c14 h
          refine lv_iconst (v := 1) hx hb dX9_there_21 (by decide) ?_
          refine lv_iadd hx hb dX9_there_22 ?_
          refine lv_istore_n (lv' := [(1, .int (v1 + (1 : Int32))), (0, .ref (xB X 11)), (2, .int v2)]) hx hb dX9_there_23 rfl hl (by decide) rfl (fun ls hl => ?_)
          refine lv_iinc (v := (v2 + (1 : Int32))) (lv' := [(2, .int (v2 + (1 : Int32))), (1, .int (v1 + (1 : Int32))), (0, .ref (xB X 11))]) hx hb dX9_there_24 hl (k := 2) rfl rfl (by decide) rfl (fun ls hl => ?_)
          refine lv_goto (tgt := 4) hx hb dX9_there_27 (by decide) ?_
          exact ih4 (v1 + (1 : Int32)) (v2 + (1 : Int32)) ls (lv_sub hl [2, 1, 0] rfl) h
        · replace h := if_f c14 h
          refine lv_iconst (v := 0) hx hb dX9_there_17 (by decide) ?_
          refine lv_goto (tgt := 22) hx hb dX9_there_18 (by decide) ?_
          refine lv_iadd hx hb dX9_there_22 ?_
          refine lv_istore_n (lv' := [(1, .int (v1 + (0 : Int32))), (0, .ref (xB X 11)), (2, .int v2)]) hx hb dX9_there_23 rfl hl (by decide) rfl (fun ls hl => ?_)
          refine lv_iinc (v := (v2 + (1 : Int32))) (lv' := [(2, .int (v2 + (1 : Int32))), (1, .int (v1 + (0 : Int32))), (0, .ref (xB X 11))]) hx hb dX9_there_24 hl (k := 2) rfl rfl (by decide) rfl (fun ls hl => ?_)
          refine lv_goto (tgt := 4) hx hb dX9_there_27 (by decide) ?_
          exact ih4 (v1 + (0 : Int32)) (v2 + (1 : Int32)) ls (lv_sub hl [2, 1, 0] rfl) h
  rw [X9_there_10] at h
  refine lv_iconst (v := 0) hx hb dX9_there_0 (by decide) ?_
  refine lv_istore_n (lv' := [(1, .int (0 : Int32)), (0, .ref (xB X 11))]) hx hb dX9_there_1 rfl hl (by decide) rfl (fun ls hl => ?_)
  refine lv_iconst (v := 0) hx hb dX9_there_2 (by decide) ?_
  refine lv_istore_n (lv' := [(2, .int (0 : Int32)), (1, .int (0 : Int32)), (0, .ref (xB X 11))]) hx hb dX9_there_3 rfl hl (by decide) rfl (fun ls hl => ?_)
  exact hL4 500 (0 : Int32) (0 : Int32) ls (lv_sub hl [2, 1, 0] rfl) h
set_option maxRecDepth 100000 in
set_option maxHeartbeats 4000000 in
theorem c_X9_there_12 (l : Launch) (X : gX) (mi : Nat → Int32) (ml : Nat → Int64) (ma : Nat → Nat → Int32) (mb : Nat → Nat → Int64) {o0 : Int32} (h : X9_there_12 ma = some o0) : Met l yX9_there (Cond.code yX9_there cX9_there 3 (some .int) :: gT) { frames := 0, cells := 0, slots := 0, locals := 0 } (va_Pc [.ref (xB X 13)] (mPre X mi ml ma mb)) (k2_QcV (.int o0)) 0 0 (fun _ => False) := by
  refine Met.ofW (cc := cX9_there) (maxL := 3) (ret := (some .int)) (by decide) rfl ?_
  intro p e s m args below meth c s₁ B hml hv
  obtain ⟨rfl, hP, hK, hN⟩ := hv
  have hx := B.exec
  have hb := B.bytes
  have hr := B.returns
  have hts := atoms_spec (ws := (Cond.code yX9_there cX9_there 3 (some .int) :: gT)) B.pre
  have hT : ∀ w ∈ gT, w.before _ s = true := fun w hw => hts w (List.mem_cons_of_mem _ hw)
  have hown : s.vm.findClass RX9 = some m.cls := findClass_of_methodNamed B.named
  have hlocks := B.notSynchronized
  have hS : va_S (mA X) s.heap s.heap [] := va_S.rf
  have hl := lv_entry ([.ref (xB X 13)]) (n := 3) (Nat.le_of_ble_eq_true rfl)
  rw [lg_entry_eq]
  generalize (lg_sl ([.ref (xB X 13)]) ++ List.replicate (3 - (lg_sl ([.ref (xB X 13)])).length) Slot.unset).toArray = ls at hl ⊢
  have hl : lv_has ls 3 [(0, .ref (xB X 13))] := hl
  have hL4 : ∀ (n4 : Nat) (v1 : Int32) (v2 : Int32) (ls : Array Slot), lv_has ls 3 [(0, .ref (xB X 13)), (1, .int v1), (2, .int v2)] → X9_there_12_4 ma n4 v1 v2 = some o0 → W p l e (headSpec (Cond.code yX9_there cX9_there 3 (some .int) :: gT) { frames := 0, cells := 0, slots := 0, locals := 0 }).room s m [.ref (xB X 13)].toArray below meth c s.heap [] 0 0 (MQ below (k2_QcV (.int o0)) [.ref (xB X 13)].toArray s 0 0 (fun _ => False)) (F0 m 4 ls []) := by
    intro n4
    induction n4 with
    | zero =>
      intro v1 v2 ls hl h
      rw [X9_there_12_4] at h
      cases h
    | succ n4 ih4 =>
      intro v1 v2 ls hl h
      rw [X9_there_12_4] at h
      refine lv_iload_n hx hb dX9_there_4 rfl (lv_at hl 2 rfl) ?_
      refine lv_aload_n hx hb dX9_there_5 rfl (lv_at hl 0 rfl) ?_
      refine rl_m12 hx hb hK hP dX9_there_6 ?_
      refine lv_icmp_ge (tgt := 30) hx hb dX9_there_7 (by decide) (fun c7 => ?_) (fun c7 => ?_)
      · replace h := if_t c7 h
        refine lv_iload_n hx hb dX9_there_30 rfl (lv_at hl 1 rfl) ?_
        cases h
        exact W.iret hx hb hr (fun t ht _ => ⟨rfl, ht⟩) (fun _ hq => by cases hq) dX9_there_31
      · replace h := if_f c7 h
        refine lv_iload_n hx hb dX9_there_10 rfl (lv_at hl 1 rfl) ?_
        refine lv_aload_n hx hb dX9_there_11 rfl (lv_at hl 0 rfl) ?_
        refine lv_iload_n hx hb dX9_there_12 rfl (lv_at hl 2 rfl) ?_
        obtain ⟨hi13, h⟩ := gd_e h
        refine ra_m12 hx hb hK hP (ib_in hi13) dX9_there_13 ?_
        refine lv_if_ge (tgt := 21) hx hb dX9_there_14 (by decide) (fun c14 => ?_) (fun c14 => ?_)
        · replace h := if_t c14 h
          refine lv_iconst (v := 1) hx hb dX9_there_21 (by decide) ?_
          refine lv_iadd hx hb dX9_there_22 ?_
          refine lv_istore_n (lv' := [(1, .int (v1 + (1 : Int32))), (0, .ref (xB X 13)), (2, .int v2)]) hx hb dX9_there_23 rfl hl (by decide) rfl (fun ls hl => ?_)
          refine lv_iinc (v := (v2 + (1 : Int32))) (lv' := [(2, .int (v2 + (1 : Int32))), (1, .int (v1 + (1 : Int32))), (0, .ref (xB X 13))]) hx hb dX9_there_24 hl (k := 2) rfl rfl (by decide) rfl (fun ls hl => ?_)
          refine lv_goto (tgt := 4) hx hb dX9_there_27 (by decide) ?_
          exact ih4 (v1 + (1 : Int32)) (v2 + (1 : Int32)) ls (lv_sub hl [2, 1, 0] rfl) h
        · replace h := if_f c14 h
          refine lv_iconst (v := 0) hx hb dX9_there_17 (by decide) ?_
          refine lv_goto (tgt := 22) hx hb dX9_there_18 (by decide) ?_
          refine lv_iadd hx hb dX9_there_22 ?_
          refine lv_istore_n (lv' := [(1, .int (v1 + (0 : Int32))), (0, .ref (xB X 13)), (2, .int v2)]) hx hb dX9_there_23 rfl hl (by decide) rfl (fun ls hl => ?_)
          refine lv_iinc (v := (v2 + (1 : Int32))) (lv' := [(2, .int (v2 + (1 : Int32))), (1, .int (v1 + (0 : Int32))), (0, .ref (xB X 13))]) hx hb dX9_there_24 hl (k := 2) rfl rfl (by decide) rfl (fun ls hl => ?_)
          refine lv_goto (tgt := 4) hx hb dX9_there_27 (by decide) ?_
          exact ih4 (v1 + (0 : Int32)) (v2 + (1 : Int32)) ls (lv_sub hl [2, 1, 0] rfl) h
  rw [X9_there_12] at h
  refine lv_iconst (v := 0) hx hb dX9_there_0 (by decide) ?_
  refine lv_istore_n (lv' := [(1, .int (0 : Int32)), (0, .ref (xB X 13))]) hx hb dX9_there_1 rfl hl (by decide) rfl (fun ls hl => ?_)
  refine lv_iconst (v := 0) hx hb dX9_there_2 (by decide) ?_
  refine lv_istore_n (lv' := [(2, .int (0 : Int32)), (1, .int (0 : Int32)), (0, .ref (xB X 13))]) hx hb dX9_there_3 rfl hl (by decide) rfl (fun ls hl => ?_)
  exact hL4 500 (0 : Int32) (0 : Int32) ls (lv_sub hl [2, 1, 0] rfl) h
set_option maxRecDepth 100000 in
set_option maxHeartbeats 4000000 in
theorem c_X9_there_14 (l : Launch) (X : gX) (mi : Nat → Int32) (ml : Nat → Int64) (ma : Nat → Nat → Int32) (mb : Nat → Nat → Int64) {o0 : Int32} (h : X9_there_14 ma = some o0) : Met l yX9_there (Cond.code yX9_there cX9_there 3 (some .int) :: gT) { frames := 0, cells := 0, slots := 0, locals := 0 } (va_Pc [.ref (xB X 15)] (mPre X mi ml ma mb)) (k2_QcV (.int o0)) 0 0 (fun _ => False) := by
  refine Met.ofW (cc := cX9_there) (maxL := 3) (ret := (some .int)) (by decide) rfl ?_
  intro p e s m args below meth c s₁ B hml hv
  obtain ⟨rfl, hP, hK, hN⟩ := hv
  have hx := B.exec
  have hb := B.bytes
  have hr := B.returns
  have hts := atoms_spec (ws := (Cond.code yX9_there cX9_there 3 (some .int) :: gT)) B.pre
  have hT : ∀ w ∈ gT, w.before _ s = true := fun w hw => hts w (List.mem_cons_of_mem _ hw)
  have hown : s.vm.findClass RX9 = some m.cls := findClass_of_methodNamed B.named
  have hlocks := B.notSynchronized
  have hS : va_S (mA X) s.heap s.heap [] := va_S.rf
  have hl := lv_entry ([.ref (xB X 15)]) (n := 3) (Nat.le_of_ble_eq_true rfl)
  rw [lg_entry_eq]
  generalize (lg_sl ([.ref (xB X 15)]) ++ List.replicate (3 - (lg_sl ([.ref (xB X 15)])).length) Slot.unset).toArray = ls at hl ⊢
  have hl : lv_has ls 3 [(0, .ref (xB X 15))] := hl
  have hL4 : ∀ (n4 : Nat) (v1 : Int32) (v2 : Int32) (ls : Array Slot), lv_has ls 3 [(0, .ref (xB X 15)), (1, .int v1), (2, .int v2)] → X9_there_14_4 ma n4 v1 v2 = some o0 → W p l e (headSpec (Cond.code yX9_there cX9_there 3 (some .int) :: gT) { frames := 0, cells := 0, slots := 0, locals := 0 }).room s m [.ref (xB X 15)].toArray below meth c s.heap [] 0 0 (MQ below (k2_QcV (.int o0)) [.ref (xB X 15)].toArray s 0 0 (fun _ => False)) (F0 m 4 ls []) := by
    intro n4
    induction n4 with
    | zero =>
      intro v1 v2 ls hl h
      rw [X9_there_14_4] at h
      cases h
    | succ n4 ih4 =>
      intro v1 v2 ls hl h
      rw [X9_there_14_4] at h
      refine lv_iload_n hx hb dX9_there_4 rfl (lv_at hl 2 rfl) ?_
      refine lv_aload_n hx hb dX9_there_5 rfl (lv_at hl 0 rfl) ?_
      refine rl_m14 hx hb hK hP dX9_there_6 ?_
      refine lv_icmp_ge (tgt := 30) hx hb dX9_there_7 (by decide) (fun c7 => ?_) (fun c7 => ?_)
      · replace h := if_t c7 h
        refine lv_iload_n hx hb dX9_there_30 rfl (lv_at hl 1 rfl) ?_
        cases h
        exact W.iret hx hb hr (fun t ht _ => ⟨rfl, ht⟩) (fun _ hq => by cases hq) dX9_there_31
      · replace h := if_f c7 h
        refine lv_iload_n hx hb dX9_there_10 rfl (lv_at hl 1 rfl) ?_
        refine lv_aload_n hx hb dX9_there_11 rfl (lv_at hl 0 rfl) ?_
        refine lv_iload_n hx hb dX9_there_12 rfl (lv_at hl 2 rfl) ?_
        obtain ⟨hi13, h⟩ := gd_e h
        refine ra_m14 hx hb hK hP (ib_in hi13) dX9_there_13 ?_
        refine lv_if_ge (tgt := 21) hx hb dX9_there_14 (by decide) (fun c14 => ?_) (fun c14 => ?_)
        · replace h := if_t c14 h
          refine lv_iconst (v := 1) hx hb dX9_there_21 (by decide) ?_
          refine lv_iadd hx hb dX9_there_22 ?_
          refine lv_istore_n (lv' := [(1, .int (v1 + (1 : Int32))), (0, .ref (xB X 15)), (2, .int v2)]) hx hb dX9_there_23 rfl hl (by decide) rfl (fun ls hl => ?_)
          refine lv_iinc (v := (v2 + (1 : Int32))) (lv' := [(2, .int (v2 + (1 : Int32))), (1, .int (v1 + (1 : Int32))), (0, .ref (xB X 15))]) hx hb dX9_there_24 hl (k := 2) rfl rfl (by decide) rfl (fun ls hl => ?_)
          refine lv_goto (tgt := 4) hx hb dX9_there_27 (by decide) ?_
          exact ih4 (v1 + (1 : Int32)) (v2 + (1 : Int32)) ls (lv_sub hl [2, 1, 0] rfl) h
        · replace h := if_f c14 h
          refine lv_iconst (v := 0) hx hb dX9_there_17 (by decide) ?_
          refine lv_goto (tgt := 22) hx hb dX9_there_18 (by decide) ?_
          refine lv_iadd hx hb dX9_there_22 ?_
          refine lv_istore_n (lv' := [(1, .int (v1 + (0 : Int32))), (0, .ref (xB X 15)), (2, .int v2)]) hx hb dX9_there_23 rfl hl (by decide) rfl (fun ls hl => ?_)
          refine lv_iinc (v := (v2 + (1 : Int32))) (lv' := [(2, .int (v2 + (1 : Int32))), (1, .int (v1 + (0 : Int32))), (0, .ref (xB X 15))]) hx hb dX9_there_24 hl (k := 2) rfl rfl (by decide) rfl (fun ls hl => ?_)
          refine lv_goto (tgt := 4) hx hb dX9_there_27 (by decide) ?_
          exact ih4 (v1 + (0 : Int32)) (v2 + (1 : Int32)) ls (lv_sub hl [2, 1, 0] rfl) h
  rw [X9_there_14] at h
  refine lv_iconst (v := 0) hx hb dX9_there_0 (by decide) ?_
  refine lv_istore_n (lv' := [(1, .int (0 : Int32)), (0, .ref (xB X 15))]) hx hb dX9_there_1 rfl hl (by decide) rfl (fun ls hl => ?_)
  refine lv_iconst (v := 0) hx hb dX9_there_2 (by decide) ?_
  refine lv_istore_n (lv' := [(2, .int (0 : Int32)), (1, .int (0 : Int32)), (0, .ref (xB X 15))]) hx hb dX9_there_3 rfl hl (by decide) rfl (fun ls hl => ?_)
  exact hL4 500 (0 : Int32) (0 : Int32) ls (lv_sub hl [2, 1, 0] rfl) h
set_option maxRecDepth 100000 in
set_option maxHeartbeats 4000000 in
theorem c_X9_finds (l : Launch) (X : gX) (mi : Nat → Int32) (ml : Nat → Int64) (ma : Nat → Nat → Int32) (mb : Nat → Nat → Int64) (a1 : Int32) {o0 : Int32} {o_mi : Nat → Int32} {o_ma : Nat → Nat → Int32} (h : X9_finds a1 mi ma = some (o0, o_mi, o_ma)) : Met l yX9_finds (Cond.code yX9_finds cX9_finds 2 (some .int) :: gT) { frames := 0, cells := 0, slots := 0, locals := 0 } (va_Pc [.ref (xB X 0), .int a1] (mPre X mi ml ma mb)) (wQ (some (.int o0)) (fun H => va_P X.1 vwCl (cM X o_mi ml o_ma mb) H) (mA X)) 0 0 (mA X) := by
  refine Met.ofW (cc := cX9_finds) (maxL := 2) (ret := (some .int)) (by decide) rfl ?_
  intro p e s m args below meth c s₁ B hml hv
  obtain ⟨rfl, hP, hK, hN⟩ := hv
  have hx := B.exec
  have hb := B.bytes
  have hr := B.returns
  have hts := atoms_spec (ws := (Cond.code yX9_finds cX9_finds 2 (some .int) :: gT)) B.pre
  have hT : ∀ w ∈ gT, w.before _ s = true := fun w hw => hts w (List.mem_cons_of_mem _ hw)
  have hown : s.vm.findClass RX9 = some m.cls := findClass_of_methodNamed B.named
  have hlocks := B.notSynchronized
  have hS : va_S (mA X) s.heap s.heap [] := va_S.rf
  have hl := lv_entry ([.ref (xB X 0), .int a1]) (n := 2) (Nat.le_of_ble_eq_true rfl)
  rw [lg_entry_eq]
  generalize (lg_sl ([.ref (xB X 0), .int a1]) ++ List.replicate (2 - (lg_sl ([.ref (xB X 0), .int a1])).length) Slot.unset).toArray = ls at hl ⊢
  have hl : lv_has ls 2 [(0, .ref (xB X 0)), (1, .int a1)] := hl
  rw [X9_finds] at h
  refine lv_aload_n hx hb dX9_finds_0 rfl (lv_at hl 0 rfl) ?_
  refine lv_iload_n hx hb dX9_finds_1 rfl (lv_at hl 1 rfl) ?_
  refine rp_M_finding hx hb hT hown hK hP hN hS w_794 dX9_finds_2 (fun H locs hP hS => ?_)
  generalize emi_2 : va_up mi 4 a1 = mi_2 at hP
  replace h := lt_g h emi_2
  refine lv_aload_n hx hb dX9_finds_5 rfl (lv_at hl 0 rfl) ?_
  refine rg_M_findings hx hb hT hown hK hP w_795 dX9_finds_6 ?_
  refine lv_iload_n hx hb dX9_finds_9 rfl (lv_at hl 1 rfl) ?_
  refine lv_dup2_11 hx hb dX9_finds_10 rfl rfl ?_
  obtain ⟨hi11, h⟩ := gd_e h
  refine ra_m9 hx hb hK hP (ib_in hi11) dX9_finds_11 ?_
  refine lv_iconst (v := 1) hx hb dX9_finds_12 (by decide) ?_
  refine lv_iadd hx hb dX9_finds_13 ?_
  obtain ⟨hi14, h⟩ := gd_e h
  refine rs_m9 hx hb hK hP hN hS (ib_in hi14) dX9_finds_14 (fun H locs hP hS => ?_)
  generalize ema_14 : va_up ma 9 (upd (ma 9) a1.toNatClampNeg ((ma 9 a1.toNatClampNeg) + (1 : Int32))) = ma_14 at hP
  replace h := lt_g h ema_14
  refine lv_bipush (v := -3) hx hb dX9_finds_15 (by decide) ?_
  cases h
  exact W.iret hx hb hr (fun t ht _ => ⟨rfl, by rw [ht]; exact hP, hS.F ht⟩) hS.2.2 dX9_finds_17
set_option maxRecDepth 100000 in
set_option maxHeartbeats 4000000 in
theorem c_X9_isOne (l : Launch) (X : gX) (mi : Nat → Int32) (ml : Nat → Int64) (ma : Nat → Nat → Int32) (mb : Nat → Nat → Int64) (a1 : Int32) {o0 : Int32} (h : X9_isOne mi a1 = some o0) : Met l yX9_isOne (Cond.code yX9_isOne cX9_isOne 2 (some .boolean) :: gT) { frames := 1, cells := 0, slots := 0, locals := 25 } (va_Pc [.ref (xB X 0), .int a1] (mPre X mi ml ma mb)) (k2_QcV (.int o0)) 0 0 (fun _ => False) := by
  refine Met.ofW (cc := cX9_isOne) (maxL := 2) (ret := (some .boolean)) (by decide) rfl ?_
  intro p e s m args below meth c s₁ B hml hv
  obtain ⟨rfl, hP, hK, hN⟩ := hv
  have hx := B.exec
  have hb := B.bytes
  have hr := B.returns
  have hts := atoms_spec (ws := (Cond.code yX9_isOne cX9_isOne 2 (some .boolean) :: gT)) B.pre
  have hT : ∀ w ∈ gT, w.before _ s = true := fun w hw => hts w (List.mem_cons_of_mem _ hw)
  have hown : s.vm.findClass RX9 = some m.cls := findClass_of_methodNamed B.named
  have hlocks := B.notSynchronized
  have hS : va_S (mA X) s.heap s.heap [] := va_S.rf
  have hl := lv_entry ([.ref (xB X 0), .int a1]) (n := 2) (Nat.le_of_ble_eq_true rfl)
  rw [lg_entry_eq]
  generalize (lg_sl ([.ref (xB X 0), .int a1]) ++ List.replicate (2 - (lg_sl ([.ref (xB X 0), .int a1])).length) Slot.unset).toArray = ls at hl ⊢
  have hl : lv_has ls 2 [(0, .ref (xB X 0)), (1, .int a1)] := hl
  rw [X9_isOne] at h
  refine lv_iload_n hx hb dX9_isOne_0 rfl (lv_at hl 1 rfl) ?_
  refine lv_i2l hx hb dX9_isOne_1 rfl ?_
  refine lv_lconst (v := 0) hx hb dX9_isOne_2 (by decide) ?_
  refine lv_aload_n hx hb dX9_isOne_3 rfl (lv_at hl 0 rfl) ?_
  refine rg_M_people hx hb hT hown hK hP w_779 dX9_isOne_4 ?_
  refine lv_iconst (v := 1) hx hb dX9_isOne_7 (by decide) ?_
  refine lv_isub hx hb dX9_isOne_8 ?_
  refine lv_i2l hx hb dX9_isOne_9 rfl ?_
  obtain ⟨r10, hc10, h⟩ := Option.bind_eq_some_iff.mp h
  refine rcS (As := [.long a1.toInt64, .long (0 : Int64), .long (((mi 0) - (1 : Int32)).toInt64)]) (rest := []) ⟨hx, hb, hml, hown, hts⟩ (c_X9_in l a1.toInt64 (0 : Int64) (((mi 0) - (1 : Int32)).toInt64) hc10) ⟨w_912, w_913, w_58, w_914⟩ hd_X9_in rfl rfl ⟨(Nat.le_of_ble_eq_true rfl), (Nat.le_of_ble_eq_true rfl)⟩ ⟨Nat.zero_le _, Nat.zero_le _⟩ (fun _ _ _ _ h => h) (fun _ _ _ => trivial) rfl rfl hl.1 (Nat.le_of_ble_eq_true rfl) dX9_isOne_10 ?_
  obtain ⟨hz13, h⟩ := gd_e h
  cases h
  exact W.zret (ty := .boolean) hx hb hr (nar01 (of_decide_eq_true hz13)) (fun t ht _ => ⟨rfl, ht⟩) (fun _ hq => by cases hq) dX9_isOne_13
set_option maxRecDepth 100000 in
set_option maxHeartbeats 4000000 in
theorem c_X9_row (l : Launch) (X : gX) (mi : Nat → Int32) (ml : Nat → Int64) (ma : Nat → Nat → Int32) (mb : Nat → Nat → Int64) (a1 : Int32) (a2 : Int32) {o0 : Int32} {o_mi : Nat → Int32} {o_ma : Nat → Nat → Int32} (h : X9_row a1 a2 mi ma = some (o0, o_mi, o_ma)) : Met l yX9_row (Cond.code yX9_row cX9_row 4 (some .int) :: gT) { frames := 2, cells := 0, slots := 0, locals := 45 } (va_Pc [.ref (xB X 0), .int a1, .int a2] (mPre X mi ml ma mb)) (wQ (some (.int o0)) (fun H => va_P X.1 vwCl (cM X o_mi ml o_ma mb) H) (mA X)) 0 0 (mA X) := by
  refine Met.ofW (cc := cX9_row) (maxL := 4) (ret := (some .int)) (by decide) rfl ?_
  intro p e s m args below meth c s₁ B hml hv
  obtain ⟨rfl, hP, hK, hN⟩ := hv
  have hx := B.exec
  have hb := B.bytes
  have hr := B.returns
  have hts := atoms_spec (ws := (Cond.code yX9_row cX9_row 4 (some .int) :: gT)) B.pre
  have hT : ∀ w ∈ gT, w.before _ s = true := fun w hw => hts w (List.mem_cons_of_mem _ hw)
  have hown : s.vm.findClass RX9 = some m.cls := findClass_of_methodNamed B.named
  have hlocks := B.notSynchronized
  have hS : va_S (mA X) s.heap s.heap [] := va_S.rf
  have hl := lv_entry ([.ref (xB X 0), .int a1, .int a2]) (n := 4) (Nat.le_of_ble_eq_true rfl)
  rw [lg_entry_eq]
  generalize (lg_sl ([.ref (xB X 0), .int a1, .int a2]) ++ List.replicate (4 - (lg_sl ([.ref (xB X 0), .int a1, .int a2])).length) Slot.unset).toArray = ls at hl ⊢
  have hl : lv_has ls 4 [(0, .ref (xB X 0)), (1, .int a1), (2, .int a2)] := hl
  have hL34 : ∀ (n34 : Nat) (v1 : Int32) (v2 : Int32) (v3 : Int32) (mi : Nat → Int32) (ma : Nat → Nat → Int32) (H : Heap) (locs : List Loc) (ls : Array Slot), lv_has ls 4 [(0, .ref (xB X 0)), (1, .int v1), (2, .int v2), (3, .int v3)] → va_P X.1 vwCl (cM X mi ml ma mb) H → va_S (mA X) s.heap H locs → X9_row_34 n34 v1 v2 v3 mi ma = some (o0, o_mi, o_ma) → W p l e (headSpec (Cond.code yX9_row cX9_row 4 (some .int) :: gT) { frames := 2, cells := 0, slots := 0, locals := 45 }).room s m [.ref (xB X 0), .int a1, .int a2].toArray below meth c H locs 0 0 (MQ below (wQ (some (.int o0)) (fun H => va_P X.1 vwCl (cM X o_mi ml o_ma mb) H) (mA X)) [.ref (xB X 0), .int a1, .int a2].toArray s 0 0 (mA X)) (F0 m 34 ls []) := by
    intro n34
    induction n34 with
    | zero =>
      intro v1 v2 v3 mi ma H locs ls hl hP hS h
      rw [X9_row_34] at h
      cases h
    | succ n34 ih34 =>
      intro v1 v2 v3 mi ma H locs ls hl hP hS h
      rw [X9_row_34] at h
      refine lv_iload_n hx hb dX9_row_34 rfl (lv_at hl 3 rfl) ?_
      refine lv_bipush (v := 40) hx hb dX9_row_35 (by decide) ?_
      refine lv_icmp_ge (tgt := 58) hx hb dX9_row_37 (by decide) (fun c37 => ?_) (fun c37 => ?_)
      · replace h := if_t c37 h
        refine lv_iload_n hx hb dX9_row_58 rfl (lv_at hl 2 rfl) ?_
        cases h
        exact W.iret hx hb hr (fun t ht _ => ⟨rfl, by rw [ht]; exact hP, hS.F ht⟩) hS.2.2 dX9_row_59
      · replace h := if_f c37 h
        refine lv_aload_n hx hb dX9_row_40 rfl (lv_at hl 0 rfl) ?_
        refine rg_M_rows hx hb hT hown hK hP w_797 dX9_row_41 ?_
        refine lv_bipush (v := 40) hx hb dX9_row_44 (by decide) ?_
        refine lv_iload_n hx hb dX9_row_46 rfl (lv_at hl 1 rfl) ?_
        refine lv_imul hx hb dX9_row_47 ?_
        refine lv_iload_n hx hb dX9_row_48 rfl (lv_at hl 3 rfl) ?_
        refine lv_iadd hx hb dX9_row_49 ?_
        refine lv_iconst (v := 0) hx hb dX9_row_50 (by decide) ?_
        obtain ⟨hi51, h⟩ := gd_e h
        refine rs_m11 hx hb hK hP hN hS (ib_in hi51) dX9_row_51 (fun H locs hP hS => ?_)
        generalize ema_51 : va_up ma 11 (upd (ma 11) (((40 : Int32) * v1) + v3).toNatClampNeg (0 : Int32)) = ma_51 at hP
        replace h := lt_g h ema_51
        refine lv_iinc (v := (v3 + (1 : Int32))) (lv' := [(3, .int (v3 + (1 : Int32))), (0, .ref (xB X 0)), (1, .int v1), (2, .int v2)]) hx hb dX9_row_52 hl (k := 3) rfl rfl (by decide) rfl (fun ls hl => ?_)
        refine lv_goto (tgt := 34) hx hb dX9_row_55 (by decide) ?_
        exact ih34 v1 v2 (v3 + (1 : Int32)) mi ma_51 _ _ ls (lv_sub hl [1, 2, 3, 0] rfl) hP hS h
  rw [X9_row] at h
  refine lv_iload_n hx hb dX9_row_0 rfl (lv_at hl 1 rfl) ?_
  obtain ⟨r1, hc1, h⟩ := Option.bind_eq_some_iff.mp h
  refine rcS (As := [.int a1]) (rest := []) ⟨hx, hb, hml, hown, hts⟩ (c_X9_isRow l a1 hc1) ⟨w_908, w_909, w_58, w_910⟩ hd_X9_isRow rfl rfl ⟨(Nat.le_of_ble_eq_true rfl), (Nat.le_of_ble_eq_true rfl)⟩ ⟨Nat.zero_le _, Nat.zero_le _⟩ (fun _ _ _ _ h => h) (fun _ _ _ => trivial) rfl rfl hl.1 (Nat.le_of_ble_eq_true rfl) dX9_row_1 ?_
  refine lv_if_eq (tgt := 13) hx hb dX9_row_4 (by decide) (fun c4 => ?_) (fun c4 => ?_)
  · replace h := if_t c4 h
    refine lv_iconst (v := -1) hx hb dX9_row_13 (by decide) ?_
    cases h
    exact W.iret hx hb hr (fun t ht _ => ⟨rfl, by rw [ht]; exact hP, hS.F ht⟩) hS.2.2 dX9_row_14
  · replace h := if_f c4 h
    refine lv_iload_n hx hb dX9_row_7 rfl (lv_at hl 2 rfl) ?_
    refine lv_bipush (v := 40) hx hb dX9_row_8 (by decide) ?_
    refine lv_icmp_le (tgt := 15) hx hb dX9_row_10 (by decide) (fun c10 => ?_) (fun c10 => ?_)
    · replace h := if_t c10 h
      refine lv_iload_n hx hb dX9_row_15 rfl (lv_at hl 2 rfl) ?_
      refine lv_if_ge (tgt := 25) hx hb dX9_row_16 (by decide) (fun c16 => ?_) (fun c16 => ?_)
      · replace h := if_t c16 h
        refine lv_aload_n hx hb dX9_row_25 rfl (lv_at hl 0 rfl) ?_
        refine rg_M_rowSize hx hb hT hown hK hP w_796 dX9_row_26 ?_
        refine lv_iload_n hx hb dX9_row_29 rfl (lv_at hl 1 rfl) ?_
        refine lv_iload_n hx hb dX9_row_30 rfl (lv_at hl 2 rfl) ?_
        obtain ⟨hi31, h⟩ := gd_e h
        refine rs_m10 hx hb hK hP hN hS (ib_in hi31) dX9_row_31 (fun H locs hP hS => ?_)
        generalize ema_31 : va_up ma 10 (upd (ma 10) a1.toNatClampNeg a2) = ma_31 at hP
        replace h := lt_g h ema_31
        refine lv_iconst (v := 0) hx hb dX9_row_32 (by decide) ?_
        refine lv_istore_n (lv' := [(3, .int (0 : Int32)), (0, .ref (xB X 0)), (1, .int a1), (2, .int a2)]) hx hb dX9_row_33 rfl hl (by decide) rfl (fun ls hl => ?_)
        exact hL34 500 a1 a2 (0 : Int32) mi ma_31 _ _ ls (lv_sub hl [1, 2, 3, 0] rfl) hP hS h
      · replace h := if_f c16 h
        refine lv_aload_n hx hb dX9_row_19 rfl (lv_at hl 0 rfl) ?_
        refine lv_iconst (v := 5) hx hb dX9_row_20 (by decide) ?_
        obtain ⟨r21, mi_21, ma_21, hc21, h⟩ := bd3_e h
        refine wcV (As := [.int (5 : Int32)]) (rest := []) ⟨hx, hb, hml, hown, hts⟩ (c_X9_finds l X mi ml ma mb (5 : Int32) hc21) ⟨w_915, w_917, w_12, w_58, w_918⟩ hd_X9_finds rfl rfl ⟨(Nat.le_of_ble_eq_true rfl), (Nat.le_of_ble_eq_true rfl)⟩ ⟨Nat.zero_le _, Nat.zero_le _⟩ mPre_blind (va_recv hK hP (ci := 5) rfl cM_o) (mPre_call hP hK hN) hS (fun _ h => h) rfl rfl hl.1 (Nat.le_of_ble_eq_true rfl) dX9_row_21 (fun H locs hP _ hS => ?_)
        have hP : va_P X.1 vwCl (cM X mi_21 ml ma_21 mb) H := hP
        refine W.eq (g2 := F0 m 24 ls [.int r21]) rfl ?_
        cases h
        exact W.iret hx hb hr (fun t ht _ => ⟨rfl, by rw [ht]; exact hP, hS.F ht⟩) hS.2.2 dX9_row_24
    · replace h := if_f c10 h
      refine lv_iconst (v := -1) hx hb dX9_row_13 (by decide) ?_
      cases h
      exact W.iret hx hb hr (fun t ht _ => ⟨rfl, by rw [ht]; exact hP, hS.F ht⟩) hS.2.2 dX9_row_14
set_option maxRecDepth 100000 in
set_option maxHeartbeats 4000000 in
theorem c_X9_lay (l : Launch) (X : gX) (mi : Nat → Int32) (ml : Nat → Int64) (ma : Nat → Nat → Int32) (mb : Nat → Nat → Int64) (a1 : Int32) (a2 : Int32) (a3 : Int32) {o0 : Int32} {o_mi : Nat → Int32} {o_ma : Nat → Nat → Int32} (h : X9_lay a1 a2 a3 mi ma = some (o0, o_mi, o_ma)) : Met l yX9_lay (Cond.code yX9_lay cX9_lay 4 (some .int) :: gT) { frames := 2, cells := 0, slots := 0, locals := 45 } (va_Pc [.ref (xB X 0), .int a1, .int a2, .int a3] (mPre X mi ml ma mb)) (wQ (some (.int o0)) (fun H => va_P X.1 vwCl (cM X o_mi ml o_ma mb) H) (mA X)) 0 0 (mA X) := by
  refine Met.ofW (cc := cX9_lay) (maxL := 4) (ret := (some .int)) (by decide) rfl ?_
  intro p e s m args below meth c s₁ B hml hv
  obtain ⟨rfl, hP, hK, hN⟩ := hv
  have hx := B.exec
  have hb := B.bytes
  have hr := B.returns
  have hts := atoms_spec (ws := (Cond.code yX9_lay cX9_lay 4 (some .int) :: gT)) B.pre
  have hT : ∀ w ∈ gT, w.before _ s = true := fun w hw => hts w (List.mem_cons_of_mem _ hw)
  have hown : s.vm.findClass RX9 = some m.cls := findClass_of_methodNamed B.named
  have hlocks := B.notSynchronized
  have hS : va_S (mA X) s.heap s.heap [] := va_S.rf
  have hl := lv_entry ([.ref (xB X 0), .int a1, .int a2, .int a3]) (n := 4) (Nat.le_of_ble_eq_true rfl)
  rw [lg_entry_eq]
  generalize (lg_sl ([.ref (xB X 0), .int a1, .int a2, .int a3]) ++ List.replicate (4 - (lg_sl ([.ref (xB X 0), .int a1, .int a2, .int a3])).length) Slot.unset).toArray = ls at hl ⊢
  have hl : lv_has ls 4 [(0, .ref (xB X 0)), (1, .int a1), (2, .int a2), (3, .int a3)] := hl
  rw [X9_lay] at h
  refine lv_iload_n hx hb dX9_lay_0 rfl (lv_at hl 1 rfl) ?_
  obtain ⟨r1, hc1, h⟩ := Option.bind_eq_some_iff.mp h
  refine rcS (As := [.int a1]) (rest := []) ⟨hx, hb, hml, hown, hts⟩ (c_X9_isRow l a1 hc1) ⟨w_908, w_909, w_58, w_910⟩ hd_X9_isRow rfl rfl ⟨(Nat.le_of_ble_eq_true rfl), (Nat.le_of_ble_eq_true rfl)⟩ ⟨Nat.zero_le _, Nat.zero_le _⟩ (fun _ _ _ _ h => h) (fun _ _ _ => trivial) rfl rfl hl.1 (Nat.le_of_ble_eq_true rfl) dX9_lay_1 ?_
  refine lv_if_ne (tgt := 9) hx hb dX9_lay_4 (by decide) (fun c4 => ?_) (fun c4 => ?_)
  · replace h := if_f c4 h
    refine lv_aload_n hx hb dX9_lay_9 rfl (lv_at hl 0 rfl) ?_
    refine rg_M_rowSize hx hb hT hown hK hP w_796 dX9_lay_10 ?_
    refine lv_iload_n hx hb dX9_lay_13 rfl (lv_at hl 1 rfl) ?_
    obtain ⟨hi14, h⟩ := gd_e h
    refine ra_m10 hx hb hK hP (ib_in hi14) dX9_lay_14 ?_
    refine lv_if_ge (tgt := 24) hx hb dX9_lay_15 (by decide) (fun c15 => ?_) (fun c15 => ?_)
    · replace h := if_t c15 h
      refine lv_iload_n hx hb dX9_lay_24 rfl (lv_at hl 2 rfl) ?_
      refine lv_i2l hx hb dX9_lay_25 rfl ?_
      refine lv_lconst (v := 0) hx hb dX9_lay_26 (by decide) ?_
      refine lv_aload_n hx hb dX9_lay_27 rfl (lv_at hl 0 rfl) ?_
      refine rg_M_rowSize hx hb hT hown hK hP w_796 dX9_lay_28 ?_
      refine lv_iload_n hx hb dX9_lay_31 rfl (lv_at hl 1 rfl) ?_
      obtain ⟨hi32, h⟩ := gd_e h
      refine ra_m10 hx hb hK hP (ib_in hi32) dX9_lay_32 ?_
      refine lv_iconst (v := 1) hx hb dX9_lay_33 (by decide) ?_
      refine lv_isub hx hb dX9_lay_34 ?_
      refine lv_i2l hx hb dX9_lay_35 rfl ?_
      obtain ⟨r36, hc36, h⟩ := Option.bind_eq_some_iff.mp h
      refine rcS (As := [.long a2.toInt64, .long (0 : Int64), .long (((ma 10 a1.toNatClampNeg) - (1 : Int32)).toInt64)]) (rest := []) ⟨hx, hb, hml, hown, hts⟩ (c_X9_in l a2.toInt64 (0 : Int64) (((ma 10 a1.toNatClampNeg) - (1 : Int32)).toInt64) hc36) ⟨w_912, w_913, w_58, w_914⟩ hd_X9_in rfl rfl ⟨(Nat.le_of_ble_eq_true rfl), (Nat.le_of_ble_eq_true rfl)⟩ ⟨Nat.zero_le _, Nat.zero_le _⟩ (fun _ _ _ _ h => h) (fun _ _ _ => trivial) rfl rfl hl.1 (Nat.le_of_ble_eq_true rfl) dX9_lay_36 ?_
      refine lv_if_ne (tgt := 48) hx hb dX9_lay_39 (by decide) (fun c39 => ?_) (fun c39 => ?_)
      · replace h := if_f c39 h
        refine lv_aload_n hx hb dX9_lay_48 rfl (lv_at hl 0 rfl) ?_
        refine lv_aload_n hx hb dX9_lay_49 rfl (lv_at hl 0 rfl) ?_
        refine rg_M_rows hx hb hT hown hK hP w_797 dX9_lay_50 ?_
        refine lv_bipush (v := 40) hx hb dX9_lay_53 (by decide) ?_
        refine lv_iload_n hx hb dX9_lay_55 rfl (lv_at hl 1 rfl) ?_
        refine lv_imul hx hb dX9_lay_56 ?_
        refine lv_iload_n hx hb dX9_lay_57 rfl (lv_at hl 2 rfl) ?_
        refine lv_iadd hx hb dX9_lay_58 ?_
        obtain ⟨hi59, h⟩ := gd_e h
        refine ra_m11 hx hb hK hP (ib_in hi59) dX9_lay_59 ?_
        refine rp_M_asked hx hb hT hown hK hP hN hS w_791 dX9_lay_60 (fun H locs hP hS => ?_)
        generalize emi_60 : va_up mi 3 (ma 11 (((40 : Int32) * a1) + a2).toNatClampNeg) = mi_60 at hP
        replace h := lt_g h emi_60
        refine lv_aload_n hx hb dX9_lay_63 rfl (lv_at hl 0 rfl) ?_
        refine rg_M_rows hx hb hT hown hK hP w_797 dX9_lay_64 ?_
        refine lv_bipush (v := 40) hx hb dX9_lay_67 (by decide) ?_
        refine lv_iload_n hx hb dX9_lay_69 rfl (lv_at hl 1 rfl) ?_
        refine lv_imul hx hb dX9_lay_70 ?_
        refine lv_iload_n hx hb dX9_lay_71 rfl (lv_at hl 2 rfl) ?_
        refine lv_iadd hx hb dX9_lay_72 ?_
        refine lv_iload_n hx hb dX9_lay_73 rfl (lv_at hl 3 rfl) ?_
        obtain ⟨hi74, h⟩ := gd_e h
        refine rs_m11 hx hb hK hP hN hS (ib_in hi74) dX9_lay_74 (fun H locs hP hS => ?_)
        generalize ema_74 : va_up ma 11 (upd (ma 11) (((40 : Int32) * a1) + a2).toNatClampNeg a3) = ma_74 at hP
        replace h := lt_g h ema_74
        refine lv_iconst (v := 1) hx hb dX9_lay_75 (by decide) ?_
        cases h
        exact W.iret hx hb hr (fun t ht _ => ⟨rfl, by rw [ht]; exact hP, hS.F ht⟩) hS.2.2 dX9_lay_76
      · replace h := if_t c39 h
        refine lv_aload_n hx hb dX9_lay_42 rfl (lv_at hl 0 rfl) ?_
        refine lv_iconst (v := 2) hx hb dX9_lay_43 (by decide) ?_
        obtain ⟨r44, mi_44, ma_44, hc44, h⟩ := bd3_e h
        refine wcV (As := [.int (2 : Int32)]) (rest := []) ⟨hx, hb, hml, hown, hts⟩ (c_X9_finds l X mi ml ma mb (2 : Int32) hc44) ⟨w_915, w_917, w_12, w_58, w_918⟩ hd_X9_finds rfl rfl ⟨(Nat.le_of_ble_eq_true rfl), (Nat.le_of_ble_eq_true rfl)⟩ ⟨Nat.zero_le _, Nat.zero_le _⟩ mPre_blind (va_recv hK hP (ci := 5) rfl cM_o) (mPre_call hP hK hN) hS (fun _ h => h) rfl rfl hl.1 (Nat.le_of_ble_eq_true rfl) dX9_lay_44 (fun H locs hP _ hS => ?_)
        have hP : va_P X.1 vwCl (cM X mi_44 ml ma_44 mb) H := hP
        refine W.eq (g2 := F0 m 47 ls [.int r44]) rfl ?_
        cases h
        exact W.iret hx hb hr (fun t ht _ => ⟨rfl, by rw [ht]; exact hP, hS.F ht⟩) hS.2.2 dX9_lay_47
    · replace h := if_f c15 h
      refine lv_aload_n hx hb dX9_lay_18 rfl (lv_at hl 0 rfl) ?_
      refine lv_iconst (v := 1) hx hb dX9_lay_19 (by decide) ?_
      obtain ⟨r20, mi_20, ma_20, hc20, h⟩ := bd3_e h
      refine wcV (As := [.int (1 : Int32)]) (rest := []) ⟨hx, hb, hml, hown, hts⟩ (c_X9_finds l X mi ml ma mb (1 : Int32) hc20) ⟨w_915, w_917, w_12, w_58, w_918⟩ hd_X9_finds rfl rfl ⟨(Nat.le_of_ble_eq_true rfl), (Nat.le_of_ble_eq_true rfl)⟩ ⟨Nat.zero_le _, Nat.zero_le _⟩ mPre_blind (va_recv hK hP (ci := 5) rfl cM_o) (mPre_call hP hK hN) hS (fun _ h => h) rfl rfl hl.1 (Nat.le_of_ble_eq_true rfl) dX9_lay_20 (fun H locs hP _ hS => ?_)
      have hP : va_P X.1 vwCl (cM X mi_20 ml ma_20 mb) H := hP
      refine W.eq (g2 := F0 m 23 ls [.int r20]) rfl ?_
      cases h
      exact W.iret hx hb hr (fun t ht _ => ⟨rfl, by rw [ht]; exact hP, hS.F ht⟩) hS.2.2 dX9_lay_23
  · replace h := if_t c4 h
    refine lv_iconst (v := -1) hx hb dX9_lay_7 (by decide) ?_
    cases h
    exact W.iret hx hb hr (fun t ht _ => ⟨rfl, by rw [ht]; exact hP, hS.F ht⟩) hS.2.2 dX9_lay_8
set_option maxRecDepth 100000 in
set_option maxHeartbeats 4000000 in
theorem c_X9_at (l : Launch) (X : gX) (mi : Nat → Int32) (ml : Nat → Int64) (ma : Nat → Nat → Int32) (mb : Nat → Nat → Int64) (a1 : Int32) (a2 : Int32) {o0 : Int32} {o_mi : Nat → Int32} {o_ma : Nat → Nat → Int32} (h : X9_at a1 a2 mi ma = some (o0, o_mi, o_ma)) : Met l yX9_at (Cond.code yX9_at cX9_at 3 (some .int) :: gT) { frames := 2, cells := 0, slots := 0, locals := 45 } (va_Pc [.ref (xB X 0), .int a1, .int a2] (mPre X mi ml ma mb)) (wQ (some (.int o0)) (fun H => va_P X.1 vwCl (cM X o_mi ml o_ma mb) H) (mA X)) 0 0 (mA X) := by
  refine Met.ofW (cc := cX9_at) (maxL := 3) (ret := (some .int)) (by decide) rfl ?_
  intro p e s m args below meth c s₁ B hml hv
  obtain ⟨rfl, hP, hK, hN⟩ := hv
  have hx := B.exec
  have hb := B.bytes
  have hr := B.returns
  have hts := atoms_spec (ws := (Cond.code yX9_at cX9_at 3 (some .int) :: gT)) B.pre
  have hT : ∀ w ∈ gT, w.before _ s = true := fun w hw => hts w (List.mem_cons_of_mem _ hw)
  have hown : s.vm.findClass RX9 = some m.cls := findClass_of_methodNamed B.named
  have hlocks := B.notSynchronized
  have hS : va_S (mA X) s.heap s.heap [] := va_S.rf
  have hl := lv_entry ([.ref (xB X 0), .int a1, .int a2]) (n := 3) (Nat.le_of_ble_eq_true rfl)
  rw [lg_entry_eq]
  generalize (lg_sl ([.ref (xB X 0), .int a1, .int a2]) ++ List.replicate (3 - (lg_sl ([.ref (xB X 0), .int a1, .int a2])).length) Slot.unset).toArray = ls at hl ⊢
  have hl : lv_has ls 3 [(0, .ref (xB X 0)), (1, .int a1), (2, .int a2)] := hl
  rw [X9_at] at h
  refine lv_iload_n hx hb dX9_at_0 rfl (lv_at hl 1 rfl) ?_
  obtain ⟨r1, hc1, h⟩ := Option.bind_eq_some_iff.mp h
  refine rcS (As := [.int a1]) (rest := []) ⟨hx, hb, hml, hown, hts⟩ (c_X9_isRow l a1 hc1) ⟨w_908, w_909, w_58, w_910⟩ hd_X9_isRow rfl rfl ⟨(Nat.le_of_ble_eq_true rfl), (Nat.le_of_ble_eq_true rfl)⟩ ⟨Nat.zero_le _, Nat.zero_le _⟩ (fun _ _ _ _ h => h) (fun _ _ _ => trivial) rfl rfl hl.1 (Nat.le_of_ble_eq_true rfl) dX9_at_1 ?_
  refine lv_if_ne (tgt := 9) hx hb dX9_at_4 (by decide) (fun c4 => ?_) (fun c4 => ?_)
  · replace h := if_f c4 h
    refine lv_aload_n hx hb dX9_at_9 rfl (lv_at hl 0 rfl) ?_
    refine rg_M_rowSize hx hb hT hown hK hP w_796 dX9_at_10 ?_
    refine lv_iload_n hx hb dX9_at_13 rfl (lv_at hl 1 rfl) ?_
    obtain ⟨hi14, h⟩ := gd_e h
    refine ra_m10 hx hb hK hP (ib_in hi14) dX9_at_14 ?_
    refine lv_if_ge (tgt := 24) hx hb dX9_at_15 (by decide) (fun c15 => ?_) (fun c15 => ?_)
    · replace h := if_t c15 h
      refine lv_iload_n hx hb dX9_at_24 rfl (lv_at hl 2 rfl) ?_
      refine lv_i2l hx hb dX9_at_25 rfl ?_
      refine lv_lconst (v := 0) hx hb dX9_at_26 (by decide) ?_
      refine lv_aload_n hx hb dX9_at_27 rfl (lv_at hl 0 rfl) ?_
      refine rg_M_rowSize hx hb hT hown hK hP w_796 dX9_at_28 ?_
      refine lv_iload_n hx hb dX9_at_31 rfl (lv_at hl 1 rfl) ?_
      obtain ⟨hi32, h⟩ := gd_e h
      refine ra_m10 hx hb hK hP (ib_in hi32) dX9_at_32 ?_
      refine lv_iconst (v := 1) hx hb dX9_at_33 (by decide) ?_
      refine lv_isub hx hb dX9_at_34 ?_
      refine lv_i2l hx hb dX9_at_35 rfl ?_
      obtain ⟨r36, hc36, h⟩ := Option.bind_eq_some_iff.mp h
      refine rcS (As := [.long a2.toInt64, .long (0 : Int64), .long (((ma 10 a1.toNatClampNeg) - (1 : Int32)).toInt64)]) (rest := []) ⟨hx, hb, hml, hown, hts⟩ (c_X9_in l a2.toInt64 (0 : Int64) (((ma 10 a1.toNatClampNeg) - (1 : Int32)).toInt64) hc36) ⟨w_912, w_913, w_58, w_914⟩ hd_X9_in rfl rfl ⟨(Nat.le_of_ble_eq_true rfl), (Nat.le_of_ble_eq_true rfl)⟩ ⟨Nat.zero_le _, Nat.zero_le _⟩ (fun _ _ _ _ h => h) (fun _ _ _ => trivial) rfl rfl hl.1 (Nat.le_of_ble_eq_true rfl) dX9_at_36 ?_
      refine lv_if_ne (tgt := 48) hx hb dX9_at_39 (by decide) (fun c39 => ?_) (fun c39 => ?_)
      · replace h := if_f c39 h
        refine lv_aload_n hx hb dX9_at_48 rfl (lv_at hl 0 rfl) ?_
        refine lv_aload_n hx hb dX9_at_49 rfl (lv_at hl 0 rfl) ?_
        refine rg_M_rows hx hb hT hown hK hP w_797 dX9_at_50 ?_
        refine lv_bipush (v := 40) hx hb dX9_at_53 (by decide) ?_
        refine lv_iload_n hx hb dX9_at_55 rfl (lv_at hl 1 rfl) ?_
        refine lv_imul hx hb dX9_at_56 ?_
        refine lv_iload_n hx hb dX9_at_57 rfl (lv_at hl 2 rfl) ?_
        refine lv_iadd hx hb dX9_at_58 ?_
        obtain ⟨hi59, h⟩ := gd_e h
        refine ra_m11 hx hb hK hP (ib_in hi59) dX9_at_59 ?_
        refine rp_M_asked hx hb hT hown hK hP hN hS w_791 dX9_at_60 (fun H locs hP hS => ?_)
        generalize emi_60 : va_up mi 3 (ma 11 (((40 : Int32) * a1) + a2).toNatClampNeg) = mi_60 at hP
        replace h := lt_g h emi_60
        refine lv_iconst (v := 1) hx hb dX9_at_63 (by decide) ?_
        cases h
        exact W.iret hx hb hr (fun t ht _ => ⟨rfl, by rw [ht]; exact hP, hS.F ht⟩) hS.2.2 dX9_at_64
      · replace h := if_t c39 h
        refine lv_aload_n hx hb dX9_at_42 rfl (lv_at hl 0 rfl) ?_
        refine lv_iconst (v := 2) hx hb dX9_at_43 (by decide) ?_
        obtain ⟨r44, mi_44, ma_44, hc44, h⟩ := bd3_e h
        refine wcV (As := [.int (2 : Int32)]) (rest := []) ⟨hx, hb, hml, hown, hts⟩ (c_X9_finds l X mi ml ma mb (2 : Int32) hc44) ⟨w_915, w_917, w_12, w_58, w_918⟩ hd_X9_finds rfl rfl ⟨(Nat.le_of_ble_eq_true rfl), (Nat.le_of_ble_eq_true rfl)⟩ ⟨Nat.zero_le _, Nat.zero_le _⟩ mPre_blind (va_recv hK hP (ci := 5) rfl cM_o) (mPre_call hP hK hN) hS (fun _ h => h) rfl rfl hl.1 (Nat.le_of_ble_eq_true rfl) dX9_at_44 (fun H locs hP _ hS => ?_)
        have hP : va_P X.1 vwCl (cM X mi_44 ml ma_44 mb) H := hP
        refine W.eq (g2 := F0 m 47 ls [.int r44]) rfl ?_
        cases h
        exact W.iret hx hb hr (fun t ht _ => ⟨rfl, by rw [ht]; exact hP, hS.F ht⟩) hS.2.2 dX9_at_47
    · replace h := if_f c15 h
      refine lv_aload_n hx hb dX9_at_18 rfl (lv_at hl 0 rfl) ?_
      refine lv_iconst (v := 1) hx hb dX9_at_19 (by decide) ?_
      obtain ⟨r20, mi_20, ma_20, hc20, h⟩ := bd3_e h
      refine wcV (As := [.int (1 : Int32)]) (rest := []) ⟨hx, hb, hml, hown, hts⟩ (c_X9_finds l X mi ml ma mb (1 : Int32) hc20) ⟨w_915, w_917, w_12, w_58, w_918⟩ hd_X9_finds rfl rfl ⟨(Nat.le_of_ble_eq_true rfl), (Nat.le_of_ble_eq_true rfl)⟩ ⟨Nat.zero_le _, Nat.zero_le _⟩ mPre_blind (va_recv hK hP (ci := 5) rfl cM_o) (mPre_call hP hK hN) hS (fun _ h => h) rfl rfl hl.1 (Nat.le_of_ble_eq_true rfl) dX9_at_20 (fun H locs hP _ hS => ?_)
      have hP : va_P X.1 vwCl (cM X mi_20 ml ma_20 mb) H := hP
      refine W.eq (g2 := F0 m 23 ls [.int r20]) rfl ?_
      cases h
      exact W.iret hx hb hr (fun t ht _ => ⟨rfl, by rw [ht]; exact hP, hS.F ht⟩) hS.2.2 dX9_at_23
  · replace h := if_t c4 h
    refine lv_iconst (v := -1) hx hb dX9_at_7 (by decide) ?_
    cases h
    exact W.iret hx hb hr (fun t ht _ => ⟨rfl, by rw [ht]; exact hP, hS.F ht⟩) hS.2.2 dX9_at_8
set_option maxRecDepth 100000 in
set_option maxHeartbeats 4000000 in
theorem c_X9_tear (l : Launch) (X : gX) (mi : Nat → Int32) (ml : Nat → Int64) (ma : Nat → Nat → Int32) (mb : Nat → Nat → Int64) (a1 : Int32) {o0 : Int32} {o_mi : Nat → Int32} {o_ma : Nat → Nat → Int32} (h : X9_tear a1 mi ma = some (o0, o_mi, o_ma)) : Met l yX9_tear (Cond.code yX9_tear cX9_tear 2 (some .int) :: gT) { frames := 2, cells := 0, slots := 0, locals := 45 } (va_Pc [.ref (xB X 0), .int a1] (mPre X mi ml ma mb)) (wQ (some (.int o0)) (fun H => va_P X.1 vwCl (cM X o_mi ml o_ma mb) H) (mA X)) 0 0 (mA X) := by
  refine Met.ofW (cc := cX9_tear) (maxL := 2) (ret := (some .int)) (by decide) rfl ?_
  intro p e s m args below meth c s₁ B hml hv
  obtain ⟨rfl, hP, hK, hN⟩ := hv
  have hx := B.exec
  have hb := B.bytes
  have hr := B.returns
  have hts := atoms_spec (ws := (Cond.code yX9_tear cX9_tear 2 (some .int) :: gT)) B.pre
  have hT : ∀ w ∈ gT, w.before _ s = true := fun w hw => hts w (List.mem_cons_of_mem _ hw)
  have hown : s.vm.findClass RX9 = some m.cls := findClass_of_methodNamed B.named
  have hlocks := B.notSynchronized
  have hS : va_S (mA X) s.heap s.heap [] := va_S.rf
  have hl := lv_entry ([.ref (xB X 0), .int a1]) (n := 2) (Nat.le_of_ble_eq_true rfl)
  rw [lg_entry_eq]
  generalize (lg_sl ([.ref (xB X 0), .int a1]) ++ List.replicate (2 - (lg_sl ([.ref (xB X 0), .int a1])).length) Slot.unset).toArray = ls at hl ⊢
  have hl : lv_has ls 2 [(0, .ref (xB X 0)), (1, .int a1)] := hl
  rw [X9_tear] at h
  refine lv_iload_n hx hb dX9_tear_0 rfl (lv_at hl 1 rfl) ?_
  obtain ⟨r1, hc1, h⟩ := Option.bind_eq_some_iff.mp h
  refine rcS (As := [.int a1]) (rest := []) ⟨hx, hb, hml, hown, hts⟩ (c_X9_isRow l a1 hc1) ⟨w_908, w_909, w_58, w_910⟩ hd_X9_isRow rfl rfl ⟨(Nat.le_of_ble_eq_true rfl), (Nat.le_of_ble_eq_true rfl)⟩ ⟨Nat.zero_le _, Nat.zero_le _⟩ (fun _ _ _ _ h => h) (fun _ _ _ => trivial) rfl rfl hl.1 (Nat.le_of_ble_eq_true rfl) dX9_tear_1 ?_
  refine lv_if_ne (tgt := 9) hx hb dX9_tear_4 (by decide) (fun c4 => ?_) (fun c4 => ?_)
  · replace h := if_f c4 h
    refine lv_aload_n hx hb dX9_tear_9 rfl (lv_at hl 0 rfl) ?_
    refine rg_M_rowSize hx hb hT hown hK hP w_796 dX9_tear_10 ?_
    refine lv_iload_n hx hb dX9_tear_13 rfl (lv_at hl 1 rfl) ?_
    obtain ⟨hi14, h⟩ := gd_e h
    refine ra_m10 hx hb hK hP (ib_in hi14) dX9_tear_14 ?_
    refine lv_if_ge (tgt := 24) hx hb dX9_tear_15 (by decide) (fun c15 => ?_) (fun c15 => ?_)
    · replace h := if_t c15 h
      refine lv_aload_n hx hb dX9_tear_24 rfl (lv_at hl 0 rfl) ?_
      refine rg_M_rowSize hx hb hT hown hK hP w_796 dX9_tear_25 ?_
      refine lv_iload_n hx hb dX9_tear_28 rfl (lv_at hl 1 rfl) ?_
      refine lv_iconst (v := -1) hx hb dX9_tear_29 (by decide) ?_
      obtain ⟨hi30, h⟩ := gd_e h
      refine rs_m10 hx hb hK hP hN hS (ib_in hi30) dX9_tear_30 (fun H locs hP hS => ?_)
      generalize ema_30 : va_up ma 10 (upd (ma 10) a1.toNatClampNeg (-1 : Int32)) = ma_30 at hP
      replace h := lt_g h ema_30
      refine lv_iconst (v := 1) hx hb dX9_tear_31 (by decide) ?_
      cases h
      exact W.iret hx hb hr (fun t ht _ => ⟨rfl, by rw [ht]; exact hP, hS.F ht⟩) hS.2.2 dX9_tear_32
    · replace h := if_f c15 h
      refine lv_aload_n hx hb dX9_tear_18 rfl (lv_at hl 0 rfl) ?_
      refine lv_iconst (v := 1) hx hb dX9_tear_19 (by decide) ?_
      obtain ⟨r20, mi_20, ma_20, hc20, h⟩ := bd3_e h
      refine wcV (As := [.int (1 : Int32)]) (rest := []) ⟨hx, hb, hml, hown, hts⟩ (c_X9_finds l X mi ml ma mb (1 : Int32) hc20) ⟨w_915, w_917, w_12, w_58, w_918⟩ hd_X9_finds rfl rfl ⟨(Nat.le_of_ble_eq_true rfl), (Nat.le_of_ble_eq_true rfl)⟩ ⟨Nat.zero_le _, Nat.zero_le _⟩ mPre_blind (va_recv hK hP (ci := 5) rfl cM_o) (mPre_call hP hK hN) hS (fun _ h => h) rfl rfl hl.1 (Nat.le_of_ble_eq_true rfl) dX9_tear_20 (fun H locs hP _ hS => ?_)
      have hP : va_P X.1 vwCl (cM X mi_20 ml ma_20 mb) H := hP
      refine W.eq (g2 := F0 m 23 ls [.int r20]) rfl ?_
      cases h
      exact W.iret hx hb hr (fun t ht _ => ⟨rfl, by rw [ht]; exact hP, hS.F ht⟩) hS.2.2 dX9_tear_23
  · replace h := if_t c4 h
    refine lv_iconst (v := -1) hx hb dX9_tear_7 (by decide) ?_
    cases h
    exact W.iret hx hb hr (fun t ht _ => ⟨rfl, by rw [ht]; exact hP, hS.F ht⟩) hS.2.2 dX9_tear_8
set_option maxRecDepth 100000 in
set_option maxHeartbeats 4000000 in
theorem c_X9_copy (l : Launch) (X : gX) (mi : Nat → Int32) (ml : Nat → Int64) (ma : Nat → Nat → Int32) (mb : Nat → Nat → Int64) (a1 : Int32) (a2 : Int32) (a3 : Int32) (a4 : Int32) (a5 : Int32) {o0 : Int32} {o_mi : Nat → Int32} {o_ma : Nat → Nat → Int32} (h : X9_copy a1 a2 a3 a4 a5 mi ma = some (o0, o_mi, o_ma)) : Met l yX9_copy (Cond.code yX9_copy cX9_copy 7 (some .int) :: gT) { frames := 2, cells := 0, slots := 0, locals := 45 } (va_Pc [.ref (xB X 0), .int a1, .int a2, .int a3, .int a4, .int a5] (mPre X mi ml ma mb)) (wQ (some (.int o0)) (fun H => va_P X.1 vwCl (cM X o_mi ml o_ma mb) H) (mA X)) 0 0 (mA X) := by
  refine Met.ofW (cc := cX9_copy) (maxL := 7) (ret := (some .int)) (by decide) rfl ?_
  intro p e s m args below meth c s₁ B hml hv
  obtain ⟨rfl, hP, hK, hN⟩ := hv
  have hx := B.exec
  have hb := B.bytes
  have hr := B.returns
  have hts := atoms_spec (ws := (Cond.code yX9_copy cX9_copy 7 (some .int) :: gT)) B.pre
  have hT : ∀ w ∈ gT, w.before _ s = true := fun w hw => hts w (List.mem_cons_of_mem _ hw)
  have hown : s.vm.findClass RX9 = some m.cls := findClass_of_methodNamed B.named
  have hlocks := B.notSynchronized
  have hS : va_S (mA X) s.heap s.heap [] := va_S.rf
  have hl := lv_entry ([.ref (xB X 0), .int a1, .int a2, .int a3, .int a4, .int a5]) (n := 7) (Nat.le_of_ble_eq_true rfl)
  rw [lg_entry_eq]
  generalize (lg_sl ([.ref (xB X 0), .int a1, .int a2, .int a3, .int a4, .int a5]) ++ List.replicate (7 - (lg_sl ([.ref (xB X 0), .int a1, .int a2, .int a3, .int a4, .int a5])).length) Slot.unset).toArray = ls at hl ⊢
  have hl : lv_has ls 7 [(0, .ref (xB X 0)), (1, .int a1), (2, .int a2), (3, .int a3), (4, .int a4), (5, .int a5)] := hl
  have hL133 : ∀ (n133 : Nat) (v3 : Int32) (v4 : Int32) (v5 : Int32) (v6 : Int32) (mi : Nat → Int32) (ma : Nat → Nat → Int32) (H : Heap) (locs : List Loc) (ls : Array Slot), lv_has ls 7 [(0, .ref (xB X 0)), (3, .int v3), (4, .int v4), (5, .int v5), (6, .int v6)] → va_P X.1 vwCl (cM X mi ml ma mb) H → va_S (mA X) s.heap H locs → X9_copy_133 n133 v3 v4 v5 v6 mi ma = some (o0, o_mi, o_ma) → W p l e (headSpec (Cond.code yX9_copy cX9_copy 7 (some .int) :: gT) { frames := 2, cells := 0, slots := 0, locals := 45 }).room s m [.ref (xB X 0), .int a1, .int a2, .int a3, .int a4, .int a5].toArray below meth c H locs 0 0 (MQ below (wQ (some (.int o0)) (fun H => va_P X.1 vwCl (cM X o_mi ml o_ma mb) H) (mA X)) [.ref (xB X 0), .int a1, .int a2, .int a3, .int a4, .int a5].toArray s 0 0 (mA X)) (F0 m 133 ls []) := by
    intro n133
    induction n133 with
    | zero =>
      intro v3 v4 v5 v6 mi ma H locs ls hl hP hS h
      rw [X9_copy_133] at h
      cases h
    | succ n133 ih133 =>
      intro v3 v4 v5 v6 mi ma H locs ls hl hP hS h
      rw [X9_copy_133] at h
      refine lv_iload hx hb dX9_copy_133 (lv_at hl 4 rfl) ?_
      refine lv_iload hx hb dX9_copy_135 (lv_at hl 3 rfl) ?_
      refine lv_icmp_ge (tgt := 168) hx hb dX9_copy_137 (by decide) (fun c137 => ?_) (fun c137 => ?_)
      · replace h := if_t c137 h
        refine lv_iconst (v := 1) hx hb dX9_copy_168 (by decide) ?_
        cases h
        exact W.iret hx hb hr (fun t ht _ => ⟨rfl, by rw [ht]; exact hP, hS.F ht⟩) hS.2.2 dX9_copy_169
      · replace h := if_f c137 h
        refine lv_aload_n hx hb dX9_copy_140 rfl (lv_at hl 0 rfl) ?_
        refine rg_M_rows hx hb hT hown hK hP w_797 dX9_copy_141 ?_
        refine lv_bipush (v := 40) hx hb dX9_copy_144 (by decide) ?_
        refine lv_iload_n hx hb dX9_copy_146 rfl (lv_at hl 1 rfl) ?_
        refine lv_imul hx hb dX9_copy_147 ?_
        refine lv_iload hx hb dX9_copy_148 (lv_at hl 2 rfl) ?_
        refine lv_iadd hx hb dX9_copy_150 ?_
        refine lv_iload hx hb dX9_copy_151 (lv_at hl 4 rfl) ?_
        refine lv_iadd hx hb dX9_copy_153 ?_
        refine lv_aload_n hx hb dX9_copy_154 rfl (lv_at hl 0 rfl) ?_
        refine rg_M_copied hx hb hT hown hK hP w_810 dX9_copy_155 ?_
        refine lv_iload hx hb dX9_copy_158 (lv_at hl 4 rfl) ?_
        obtain ⟨hi160, h⟩ := gd_e h
        refine ra_m24 hx hb hK hP (ib_in hi160) dX9_copy_160 ?_
        obtain ⟨hi161, h⟩ := gd_e h
        refine rs_m11 hx hb hK hP hN hS (ib_in hi161) dX9_copy_161 (fun H locs hP hS => ?_)
        generalize ema_161 : va_up ma 11 (upd (ma 11) ((((40 : Int32) * v3) + v4) + v6).toNatClampNeg (ma 24 v6.toNatClampNeg)) = ma_161 at hP
        replace h := lt_g h ema_161
        refine lv_iinc (v := (v6 + (1 : Int32))) (lv' := [(6, .int (v6 + (1 : Int32))), (0, .ref (xB X 0)), (3, .int v3), (4, .int v4), (5, .int v5)]) hx hb dX9_copy_162 hl (k := 4) rfl rfl (by decide) rfl (fun ls hl => ?_)
        refine lv_goto (tgt := 133) hx hb dX9_copy_165 (by decide) ?_
        exact ih133 v3 v4 v5 (v6 + (1 : Int32)) mi ma_161 _ _ ls (lv_sub hl [1, 2, 3, 4, 0] rfl) hP hS h
  have hL96 : ∀ (n96 : Nat) (v1 : Int32) (v2 : Int32) (v3 : Int32) (v4 : Int32) (v5 : Int32) (v6 : Int32) (mi : Nat → Int32) (ma : Nat → Nat → Int32) (H : Heap) (locs : List Loc) (ls : Array Slot), lv_has ls 7 [(0, .ref (xB X 0)), (1, .int v1), (2, .int v2), (3, .int v3), (4, .int v4), (5, .int v5), (6, .int v6)] → va_P X.1 vwCl (cM X mi ml ma mb) H → va_S (mA X) s.heap H locs → X9_copy_96 n96 v1 v2 v3 v4 v5 v6 mi ma = some (o0, o_mi, o_ma) → W p l e (headSpec (Cond.code yX9_copy cX9_copy 7 (some .int) :: gT) { frames := 2, cells := 0, slots := 0, locals := 45 }).room s m [.ref (xB X 0), .int a1, .int a2, .int a3, .int a4, .int a5].toArray below meth c H locs 0 0 (MQ below (wQ (some (.int o0)) (fun H => va_P X.1 vwCl (cM X o_mi ml o_ma mb) H) (mA X)) [.ref (xB X 0), .int a1, .int a2, .int a3, .int a4, .int a5].toArray s 0 0 (mA X)) (F0 m 96 ls []) := by
    intro n96
    induction n96 with
    | zero =>
      intro v1 v2 v3 v4 v5 v6 mi ma H locs ls hl hP hS h
      rw [X9_copy_96] at h
      cases h
    | succ n96 ih96 =>
      intro v1 v2 v3 v4 v5 v6 mi ma H locs ls hl hP hS h
      rw [X9_copy_96] at h
      refine lv_iload hx hb dX9_copy_96 (lv_at hl 6 rfl) ?_
      refine lv_iload hx hb dX9_copy_98 (lv_at hl 5 rfl) ?_
      refine lv_icmp_ge (tgt := 130) hx hb dX9_copy_100 (by decide) (fun c100 => ?_) (fun c100 => ?_)
      · replace h := if_t c100 h
        refine lv_iconst (v := 0) hx hb dX9_copy_130 (by decide) ?_
        refine lv_istore (lv' := [(6, .int (0 : Int32)), (0, .ref (xB X 0)), (1, .int v1), (2, .int v2), (3, .int v3), (4, .int v4), (5, .int v5)]) hx hb dX9_copy_131 hl (by decide) rfl (fun ls hl => ?_)
        exact hL133 500 v3 v4 v5 (0 : Int32) mi ma _ _ ls (lv_sub hl [1, 4, 5, 6, 0] rfl) hP hS h
      · replace h := if_f c100 h
        refine lv_aload_n hx hb dX9_copy_103 rfl (lv_at hl 0 rfl) ?_
        refine rg_M_copied hx hb hT hown hK hP w_810 dX9_copy_104 ?_
        refine lv_iload hx hb dX9_copy_107 (lv_at hl 6 rfl) ?_
        refine lv_aload_n hx hb dX9_copy_109 rfl (lv_at hl 0 rfl) ?_
        refine rg_M_rows hx hb hT hown hK hP w_797 dX9_copy_110 ?_
        refine lv_bipush (v := 40) hx hb dX9_copy_113 (by decide) ?_
        refine lv_iload_n hx hb dX9_copy_115 rfl (lv_at hl 1 rfl) ?_
        refine lv_imul hx hb dX9_copy_116 ?_
        refine lv_iload_n hx hb dX9_copy_117 rfl (lv_at hl 2 rfl) ?_
        refine lv_iadd hx hb dX9_copy_118 ?_
        refine lv_iload hx hb dX9_copy_119 (lv_at hl 6 rfl) ?_
        refine lv_iadd hx hb dX9_copy_121 ?_
        obtain ⟨hi122, h⟩ := gd_e h
        refine ra_m11 hx hb hK hP (ib_in hi122) dX9_copy_122 ?_
        obtain ⟨hi123, h⟩ := gd_e h
        refine rs_m24 hx hb hK hP hN hS (ib_in hi123) dX9_copy_123 (fun H locs hP hS => ?_)
        generalize ema_123 : va_up ma 24 (upd (ma 24) v6.toNatClampNeg (ma 11 ((((40 : Int32) * v1) + v2) + v6).toNatClampNeg)) = ma_123 at hP
        replace h := lt_g h ema_123
        refine lv_iinc (v := (v6 + (1 : Int32))) (lv' := [(6, .int (v6 + (1 : Int32))), (0, .ref (xB X 0)), (1, .int v1), (2, .int v2), (3, .int v3), (4, .int v4), (5, .int v5)]) hx hb dX9_copy_124 hl (k := 6) rfl rfl (by decide) rfl (fun ls hl => ?_)
        refine lv_goto (tgt := 96) hx hb dX9_copy_127 (by decide) ?_
        exact ih96 v1 v2 v3 v4 v5 (v6 + (1 : Int32)) mi ma_123 _ _ ls (lv_sub hl [1, 2, 3, 4, 5, 6, 0] rfl) hP hS h
  have hL87 : ∀ (mi : Nat → Int32) (ma : Nat → Nat → Int32) (H : Heap) (locs : List Loc) (ls : Array Slot), lv_has ls 7 [(0, .ref (xB X 0))] → va_P X.1 vwCl (cM X mi ml ma mb) H → va_S (mA X) s.heap H locs → X9_copy_87 mi ma = some (o0, o_mi, o_ma) → W p l e (headSpec (Cond.code yX9_copy cX9_copy 7 (some .int) :: gT) { frames := 2, cells := 0, slots := 0, locals := 45 }).room s m [.ref (xB X 0), .int a1, .int a2, .int a3, .int a4, .int a5].toArray below meth c H locs 0 0 (MQ below (wQ (some (.int o0)) (fun H => va_P X.1 vwCl (cM X o_mi ml o_ma mb) H) (mA X)) [.ref (xB X 0), .int a1, .int a2, .int a3, .int a4, .int a5].toArray s 0 0 (mA X)) (F0 m 87 ls []) := by
    intro mi ma H locs ls hl hP hS h
    rw [X9_copy_87] at h
    refine lv_aload_n hx hb dX9_copy_87 rfl (lv_at hl 0 rfl) ?_
    refine lv_iconst (v := 2) hx hb dX9_copy_88 (by decide) ?_
    obtain ⟨r89, mi_89, ma_89, hc89, h⟩ := bd3_e h
    refine wcV (As := [.int (2 : Int32)]) (rest := []) ⟨hx, hb, hml, hown, hts⟩ (c_X9_finds l X mi ml ma mb (2 : Int32) hc89) ⟨w_915, w_917, w_12, w_58, w_918⟩ hd_X9_finds rfl rfl ⟨(Nat.le_of_ble_eq_true rfl), (Nat.le_of_ble_eq_true rfl)⟩ ⟨Nat.zero_le _, Nat.zero_le _⟩ mPre_blind (va_recv hK hP (ci := 5) rfl cM_o) (mPre_call hP hK hN) hS (fun _ h => h) rfl rfl hl.1 (Nat.le_of_ble_eq_true rfl) dX9_copy_89 (fun H locs hP _ hS => ?_)
    have hP : va_P X.1 vwCl (cM X mi_89 ml ma_89 mb) H := hP
    refine W.eq (g2 := F0 m 92 ls [.int r89]) rfl ?_
    cases h
    exact W.iret hx hb hr (fun t ht _ => ⟨rfl, by rw [ht]; exact hP, hS.F ht⟩) hS.2.2 dX9_copy_92
  rw [X9_copy] at h
  refine lv_iload_n hx hb dX9_copy_0 rfl (lv_at hl 1 rfl) ?_
  obtain ⟨r1, hc1, h⟩ := Option.bind_eq_some_iff.mp h
  refine rcS (As := [.int a1]) (rest := []) ⟨hx, hb, hml, hown, hts⟩ (c_X9_isRow l a1 hc1) ⟨w_908, w_909, w_58, w_910⟩ hd_X9_isRow rfl rfl ⟨(Nat.le_of_ble_eq_true rfl), (Nat.le_of_ble_eq_true rfl)⟩ ⟨Nat.zero_le _, Nat.zero_le _⟩ (fun _ _ _ _ h => h) (fun _ _ _ => trivial) rfl rfl hl.1 (Nat.le_of_ble_eq_true rfl) dX9_copy_1 ?_
  refine lv_if_eq (tgt := 14) hx hb dX9_copy_4 (by decide) (fun c4 => ?_) (fun c4 => ?_)
  · replace h := if_t c4 h
    refine lv_iconst (v := -1) hx hb dX9_copy_14 (by decide) ?_
    cases h
    exact W.iret hx hb hr (fun t ht _ => ⟨rfl, by rw [ht]; exact hP, hS.F ht⟩) hS.2.2 dX9_copy_15
  · replace h := if_f c4 h
    refine lv_iload_n hx hb dX9_copy_7 rfl (lv_at hl 3 rfl) ?_
    obtain ⟨r8, hc8, h⟩ := Option.bind_eq_some_iff.mp h
    refine rcS (As := [.int a3]) (rest := []) ⟨hx, hb, hml, hown, hts⟩ (c_X9_isRow l a3 hc8) ⟨w_908, w_909, w_58, w_910⟩ hd_X9_isRow rfl rfl ⟨(Nat.le_of_ble_eq_true rfl), (Nat.le_of_ble_eq_true rfl)⟩ ⟨Nat.zero_le _, Nat.zero_le _⟩ (fun _ _ _ _ h => h) (fun _ _ _ => trivial) rfl rfl hl.1 (Nat.le_of_ble_eq_true rfl) dX9_copy_8 ?_
    refine lv_if_ne (tgt := 16) hx hb dX9_copy_11 (by decide) (fun c11 => ?_) (fun c11 => ?_)
    · replace h := if_f c11 h
      refine lv_iload hx hb dX9_copy_16 (lv_at hl 5 rfl) ?_
      refine lv_if_ge (tgt := 27) hx hb dX9_copy_18 (by decide) (fun c18 => ?_) (fun c18 => ?_)
      · replace h := if_t c18 h
        refine lv_aload_n hx hb dX9_copy_27 rfl (lv_at hl 0 rfl) ?_
        refine rg_M_rowSize hx hb hT hown hK hP w_796 dX9_copy_28 ?_
        refine lv_iload_n hx hb dX9_copy_31 rfl (lv_at hl 1 rfl) ?_
        obtain ⟨hi32, h⟩ := gd_e h
        refine ra_m10 hx hb hK hP (ib_in hi32) dX9_copy_32 ?_
        refine lv_if_lt (tgt := 45) hx hb dX9_copy_33 (by decide) (fun c33 => ?_) (fun c33 => ?_)
        · replace h := if_t c33 h
          refine lv_aload_n hx hb dX9_copy_45 rfl (lv_at hl 0 rfl) ?_
          refine lv_iconst (v := 1) hx hb dX9_copy_46 (by decide) ?_
          obtain ⟨r47, mi_47, ma_47, hc47, h⟩ := bd3_e h
          refine wcV (As := [.int (1 : Int32)]) (rest := []) ⟨hx, hb, hml, hown, hts⟩ (c_X9_finds l X mi ml ma mb (1 : Int32) hc47) ⟨w_915, w_917, w_12, w_58, w_918⟩ hd_X9_finds rfl rfl ⟨(Nat.le_of_ble_eq_true rfl), (Nat.le_of_ble_eq_true rfl)⟩ ⟨Nat.zero_le _, Nat.zero_le _⟩ mPre_blind (va_recv hK hP (ci := 5) rfl cM_o) (mPre_call hP hK hN) hS (fun _ h => h) rfl rfl hl.1 (Nat.le_of_ble_eq_true rfl) dX9_copy_47 (fun H locs hP _ hS => ?_)
          have hP : va_P X.1 vwCl (cM X mi_47 ml ma_47 mb) H := hP
          refine W.eq (g2 := F0 m 50 ls [.int r47]) rfl ?_
          cases h
          exact W.iret hx hb hr (fun t ht _ => ⟨rfl, by rw [ht]; exact hP, hS.F ht⟩) hS.2.2 dX9_copy_50
        · replace h := if_f c33 h
          refine lv_aload_n hx hb dX9_copy_36 rfl (lv_at hl 0 rfl) ?_
          refine rg_M_rowSize hx hb hT hown hK hP w_796 dX9_copy_37 ?_
          refine lv_iload_n hx hb dX9_copy_40 rfl (lv_at hl 3 rfl) ?_
          obtain ⟨hi41, h⟩ := gd_e h
          refine ra_m10 hx hb hK hP (ib_in hi41) dX9_copy_41 ?_
          refine lv_if_ge (tgt := 51) hx hb dX9_copy_42 (by decide) (fun c42 => ?_) (fun c42 => ?_)
          · replace h := if_t c42 h
            refine lv_iload_n hx hb dX9_copy_51 rfl (lv_at hl 2 rfl) ?_
            refine lv_if_lt (tgt := 87) hx hb dX9_copy_52 (by decide) (fun c52 => ?_) (fun c52 => ?_)
            · replace h := if_t c52 h
              exact hL87 mi ma _ _ ls (lv_sub hl [0] rfl) hP hS h
            · replace h := if_f c52 h
              refine lv_iload hx hb dX9_copy_55 (lv_at hl 4 rfl) ?_
              refine lv_if_lt (tgt := 87) hx hb dX9_copy_57 (by decide) (fun c57 => ?_) (fun c57 => ?_)
              · replace h := if_t c57 h
                exact hL87 mi ma _ _ ls (lv_sub hl [0] rfl) hP hS h
              · replace h := if_f c57 h
                refine lv_iload_n hx hb dX9_copy_60 rfl (lv_at hl 2 rfl) ?_
                refine lv_aload_n hx hb dX9_copy_61 rfl (lv_at hl 0 rfl) ?_
                refine rg_M_rowSize hx hb hT hown hK hP w_796 dX9_copy_62 ?_
                refine lv_iload_n hx hb dX9_copy_65 rfl (lv_at hl 1 rfl) ?_
                obtain ⟨hi66, h⟩ := gd_e h
                refine ra_m10 hx hb hK hP (ib_in hi66) dX9_copy_66 ?_
                refine lv_iload hx hb dX9_copy_67 (lv_at hl 5 rfl) ?_
                refine lv_isub hx hb dX9_copy_69 ?_
                refine lv_icmp_gt (tgt := 87) hx hb dX9_copy_70 (by decide) (fun c70 => ?_) (fun c70 => ?_)
                · replace h := if_t c70 h
                  exact hL87 mi ma _ _ ls (lv_sub hl [0] rfl) hP hS h
                · replace h := if_f c70 h
                  refine lv_iload hx hb dX9_copy_73 (lv_at hl 4 rfl) ?_
                  refine lv_aload_n hx hb dX9_copy_75 rfl (lv_at hl 0 rfl) ?_
                  refine rg_M_rowSize hx hb hT hown hK hP w_796 dX9_copy_76 ?_
                  refine lv_iload_n hx hb dX9_copy_79 rfl (lv_at hl 3 rfl) ?_
                  obtain ⟨hi80, h⟩ := gd_e h
                  refine ra_m10 hx hb hK hP (ib_in hi80) dX9_copy_80 ?_
                  refine lv_iload hx hb dX9_copy_81 (lv_at hl 5 rfl) ?_
                  refine lv_isub hx hb dX9_copy_83 ?_
                  refine lv_icmp_le (tgt := 93) hx hb dX9_copy_84 (by decide) (fun c84 => ?_) (fun c84 => ?_)
                  · replace h := if_t c84 h
                    refine lv_iconst (v := 0) hx hb dX9_copy_93 (by decide) ?_
                    refine lv_istore (lv' := [(6, .int (0 : Int32)), (0, .ref (xB X 0)), (1, .int a1), (2, .int a2), (3, .int a3), (4, .int a4), (5, .int a5)]) hx hb dX9_copy_94 hl (by decide) rfl (fun ls hl => ?_)
                    exact hL96 500 a1 a2 a3 a4 a5 (0 : Int32) mi ma _ _ ls (lv_sub hl [1, 2, 3, 4, 5, 6, 0] rfl) hP hS h
                  · replace h := if_f c84 h
                    exact hL87 mi ma _ _ ls (lv_sub hl [0] rfl) hP hS h
          · replace h := if_f c42 h
            refine lv_aload_n hx hb dX9_copy_45 rfl (lv_at hl 0 rfl) ?_
            refine lv_iconst (v := 1) hx hb dX9_copy_46 (by decide) ?_
            obtain ⟨r47, mi_47, ma_47, hc47, h⟩ := bd3_e h
            refine wcV (As := [.int (1 : Int32)]) (rest := []) ⟨hx, hb, hml, hown, hts⟩ (c_X9_finds l X mi ml ma mb (1 : Int32) hc47) ⟨w_915, w_917, w_12, w_58, w_918⟩ hd_X9_finds rfl rfl ⟨(Nat.le_of_ble_eq_true rfl), (Nat.le_of_ble_eq_true rfl)⟩ ⟨Nat.zero_le _, Nat.zero_le _⟩ mPre_blind (va_recv hK hP (ci := 5) rfl cM_o) (mPre_call hP hK hN) hS (fun _ h => h) rfl rfl hl.1 (Nat.le_of_ble_eq_true rfl) dX9_copy_47 (fun H locs hP _ hS => ?_)
            have hP : va_P X.1 vwCl (cM X mi_47 ml ma_47 mb) H := hP
            refine W.eq (g2 := F0 m 50 ls [.int r47]) rfl ?_
            cases h
            exact W.iret hx hb hr (fun t ht _ => ⟨rfl, by rw [ht]; exact hP, hS.F ht⟩) hS.2.2 dX9_copy_50
      · replace h := if_f c18 h
        refine lv_aload_n hx hb dX9_copy_21 rfl (lv_at hl 0 rfl) ?_
        refine lv_iconst (v := 5) hx hb dX9_copy_22 (by decide) ?_
        obtain ⟨r23, mi_23, ma_23, hc23, h⟩ := bd3_e h
        refine wcV (As := [.int (5 : Int32)]) (rest := []) ⟨hx, hb, hml, hown, hts⟩ (c_X9_finds l X mi ml ma mb (5 : Int32) hc23) ⟨w_915, w_917, w_12, w_58, w_918⟩ hd_X9_finds rfl rfl ⟨(Nat.le_of_ble_eq_true rfl), (Nat.le_of_ble_eq_true rfl)⟩ ⟨Nat.zero_le _, Nat.zero_le _⟩ mPre_blind (va_recv hK hP (ci := 5) rfl cM_o) (mPre_call hP hK hN) hS (fun _ h => h) rfl rfl hl.1 (Nat.le_of_ble_eq_true rfl) dX9_copy_23 (fun H locs hP _ hS => ?_)
        have hP : va_P X.1 vwCl (cM X mi_23 ml ma_23 mb) H := hP
        refine W.eq (g2 := F0 m 26 ls [.int r23]) rfl ?_
        cases h
        exact W.iret hx hb hr (fun t ht _ => ⟨rfl, by rw [ht]; exact hP, hS.F ht⟩) hS.2.2 dX9_copy_26
    · replace h := if_t c11 h
      refine lv_iconst (v := -1) hx hb dX9_copy_14 (by decide) ?_
      cases h
      exact W.iret hx hb hr (fun t ht _ => ⟨rfl, by rw [ht]; exact hP, hS.F ht⟩) hS.2.2 dX9_copy_15
set_option maxRecDepth 100000 in
set_option maxHeartbeats 4000000 in
theorem c_X9_mean (l : Launch) (X : gX) (mi : Nat → Int32) (ml : Nat → Int64) (ma : Nat → Nat → Int32) (mb : Nat → Nat → Int64) (a1 : Int32) {o0 : Int32} {o_mi : Nat → Int32} {o_ma : Nat → Nat → Int32} (h : X9_mean a1 mi ma = some (o0, o_mi, o_ma)) : Met l yX9_mean (Cond.code yX9_mean cX9_mean 5 (some .int) :: gT) { frames := 2, cells := 0, slots := 0, locals := 45 } (va_Pc [.ref (xB X 0), .int a1] (mPre X mi ml ma mb)) (wQ (some (.int o0)) (fun H => va_P X.1 vwCl (cM X o_mi ml o_ma mb) H) (mA X)) 0 0 (mA X) := by
  refine Met.ofW (cc := cX9_mean) (maxL := 5) (ret := (some .int)) (by decide) rfl ?_
  intro p e s m args below meth c s₁ B hml hv
  obtain ⟨rfl, hP, hK, hN⟩ := hv
  have hx := B.exec
  have hb := B.bytes
  have hr := B.returns
  have hts := atoms_spec (ws := (Cond.code yX9_mean cX9_mean 5 (some .int) :: gT)) B.pre
  have hT : ∀ w ∈ gT, w.before _ s = true := fun w hw => hts w (List.mem_cons_of_mem _ hw)
  have hown : s.vm.findClass RX9 = some m.cls := findClass_of_methodNamed B.named
  have hlocks := B.notSynchronized
  have hS : va_S (mA X) s.heap s.heap [] := va_S.rf
  have hl := lv_entry ([.ref (xB X 0), .int a1]) (n := 5) (Nat.le_of_ble_eq_true rfl)
  rw [lg_entry_eq]
  generalize (lg_sl ([.ref (xB X 0), .int a1]) ++ List.replicate (5 - (lg_sl ([.ref (xB X 0), .int a1])).length) Slot.unset).toArray = ls at hl ⊢
  have hl : lv_has ls 5 [(0, .ref (xB X 0)), (1, .int a1)] := hl
  have hL44 : ∀ (n44 : Nat) (v1 : Int32) (v2 : Int64) (v4 : Int32) (mi : Nat → Int32) (ma : Nat → Nat → Int32) (H : Heap) (locs : List Loc) (ls : Array Slot), lv_has ls 5 [(0, .ref (xB X 0)), (1, .int v1), (2, .long v2), (4, .int v4)] → va_P X.1 vwCl (cM X mi ml ma mb) H → va_S (mA X) s.heap H locs → X9_mean_44 n44 v1 v2 v4 mi ma = some (o0, o_mi, o_ma) → W p l e (headSpec (Cond.code yX9_mean cX9_mean 5 (some .int) :: gT) { frames := 2, cells := 0, slots := 0, locals := 45 }).room s m [.ref (xB X 0), .int a1].toArray below meth c H locs 0 0 (MQ below (wQ (some (.int o0)) (fun H => va_P X.1 vwCl (cM X o_mi ml o_ma mb) H) (mA X)) [.ref (xB X 0), .int a1].toArray s 0 0 (mA X)) (F0 m 44 ls []) := by
    intro n44
    induction n44 with
    | zero =>
      intro v1 v2 v4 mi ma H locs ls hl hP hS h
      rw [X9_mean_44] at h
      cases h
    | succ n44 ih44 =>
      intro v1 v2 v4 mi ma H locs ls hl hP hS h
      rw [X9_mean_44] at h
      refine lv_iload hx hb dX9_mean_44 (lv_at hl 3 rfl) ?_
      refine lv_aload_n hx hb dX9_mean_46 rfl (lv_at hl 0 rfl) ?_
      refine rg_M_rowSize hx hb hT hown hK hP w_796 dX9_mean_47 ?_
      refine lv_iload_n hx hb dX9_mean_50 rfl (lv_at hl 1 rfl) ?_
      obtain ⟨hi51, h⟩ := gd_e h
      refine ra_m10 hx hb hK hP (ib_in hi51) dX9_mean_51 ?_
      refine lv_icmp_ge (tgt := 77) hx hb dX9_mean_52 (by decide) (fun c52 => ?_) (fun c52 => ?_)
      · replace h := if_t c52 h
        refine lv_aload_n hx hb dX9_mean_77 rfl (lv_at hl 0 rfl) ?_
        refine lv_lload_n hx hb dX9_mean_78 rfl (lv_at hl 2 rfl) ?_
        refine lv_aload_n hx hb dX9_mean_79 rfl (lv_at hl 0 rfl) ?_
        refine rg_M_rowSize hx hb hT hown hK hP w_796 dX9_mean_80 ?_
        refine lv_iload_n hx hb dX9_mean_83 rfl (lv_at hl 1 rfl) ?_
        obtain ⟨hi84, h⟩ := gd_e h
        refine ra_m10 hx hb hK hP (ib_in hi84) dX9_mean_84 ?_
        refine lv_i2l hx hb dX9_mean_85 rfl ?_
        obtain ⟨hne86, h⟩ := gn_e h
        refine lv_ldiv hx hb dX9_mean_86 hne86 ?_
        refine lv_l2i hx hb dX9_mean_87 rfl ?_
        refine rp_M_asked hx hb hT hown hK hP hN hS w_791 dX9_mean_88 (fun H locs hP hS => ?_)
        generalize emi_88 : va_up mi 3 ((v2 / (ma 10 v1.toNatClampNeg).toInt64).toInt32) = mi_88 at hP
        replace h := lt_g h emi_88
        refine lv_iconst (v := 1) hx hb dX9_mean_91 (by decide) ?_
        cases h
        exact W.iret hx hb hr (fun t ht _ => ⟨rfl, by rw [ht]; exact hP, hS.F ht⟩) hS.2.2 dX9_mean_92
      · replace h := if_f c52 h
        refine lv_lload_n hx hb dX9_mean_55 rfl (lv_at hl 2 rfl) ?_
        refine lv_aload_n hx hb dX9_mean_56 rfl (lv_at hl 0 rfl) ?_
        refine rg_M_rows hx hb hT hown hK hP w_797 dX9_mean_57 ?_
        refine lv_bipush (v := 40) hx hb dX9_mean_60 (by decide) ?_
        refine lv_iload_n hx hb dX9_mean_62 rfl (lv_at hl 1 rfl) ?_
        refine lv_imul hx hb dX9_mean_63 ?_
        refine lv_iload hx hb dX9_mean_64 (lv_at hl 3 rfl) ?_
        refine lv_iadd hx hb dX9_mean_66 ?_
        obtain ⟨hi67, h⟩ := gd_e h
        refine ra_m11 hx hb hK hP (ib_in hi67) dX9_mean_67 ?_
        refine lv_i2l hx hb dX9_mean_68 rfl ?_
        refine lv_ladd hx hb dX9_mean_69 ?_
        refine lv_topl (fun v2_70 ev2_70 => ?_)
        replace h := lt_e h ev2_70
        refine lv_lstore_n (lv' := [(2, .long v2_70), (0, .ref (xB X 0)), (1, .int v1), (4, .int v4)]) hx hb dX9_mean_70 rfl hl (by decide) rfl (fun ls hl => ?_)
        refine lv_iinc (v := (v4 + (1 : Int32))) (lv' := [(4, .int (v4 + (1 : Int32))), (2, .long v2_70), (0, .ref (xB X 0)), (1, .int v1)]) hx hb dX9_mean_71 hl (k := 3) rfl rfl (by decide) rfl (fun ls hl => ?_)
        refine lv_goto (tgt := 44) hx hb dX9_mean_74 (by decide) ?_
        exact ih44 v1 v2_70 (v4 + (1 : Int32)) mi ma _ _ ls (lv_sub hl [2, 3, 1, 0] rfl) hP hS h
  rw [X9_mean] at h
  refine lv_iload_n hx hb dX9_mean_0 rfl (lv_at hl 1 rfl) ?_
  obtain ⟨r1, hc1, h⟩ := Option.bind_eq_some_iff.mp h
  refine rcS (As := [.int a1]) (rest := []) ⟨hx, hb, hml, hown, hts⟩ (c_X9_isRow l a1 hc1) ⟨w_908, w_909, w_58, w_910⟩ hd_X9_isRow rfl rfl ⟨(Nat.le_of_ble_eq_true rfl), (Nat.le_of_ble_eq_true rfl)⟩ ⟨Nat.zero_le _, Nat.zero_le _⟩ (fun _ _ _ _ h => h) (fun _ _ _ => trivial) rfl rfl hl.1 (Nat.le_of_ble_eq_true rfl) dX9_mean_1 ?_
  refine lv_if_ne (tgt := 9) hx hb dX9_mean_4 (by decide) (fun c4 => ?_) (fun c4 => ?_)
  · replace h := if_f c4 h
    refine lv_aload_n hx hb dX9_mean_9 rfl (lv_at hl 0 rfl) ?_
    refine rg_M_rowSize hx hb hT hown hK hP w_796 dX9_mean_10 ?_
    refine lv_iload_n hx hb dX9_mean_13 rfl (lv_at hl 1 rfl) ?_
    obtain ⟨hi14, h⟩ := gd_e h
    refine ra_m10 hx hb hK hP (ib_in hi14) dX9_mean_14 ?_
    refine lv_if_ge (tgt := 24) hx hb dX9_mean_15 (by decide) (fun c15 => ?_) (fun c15 => ?_)
    · replace h := if_t c15 h
      refine lv_aload_n hx hb dX9_mean_24 rfl (lv_at hl 0 rfl) ?_
      refine rg_M_rowSize hx hb hT hown hK hP w_796 dX9_mean_25 ?_
      refine lv_iload_n hx hb dX9_mean_28 rfl (lv_at hl 1 rfl) ?_
      obtain ⟨hi29, h⟩ := gd_e h
      refine ra_m10 hx hb hK hP (ib_in hi29) dX9_mean_29 ?_
      refine lv_if_ne (tgt := 39) hx hb dX9_mean_30 (by decide) (fun c30 => ?_) (fun c30 => ?_)
      · replace h := if_f c30 h
        refine lv_lconst (v := 0) hx hb dX9_mean_39 (by decide) ?_
        refine lv_lstore_n (lv' := [(2, .long (0 : Int64)), (0, .ref (xB X 0)), (1, .int a1)]) hx hb dX9_mean_40 rfl hl (by decide) rfl (fun ls hl => ?_)
        refine lv_iconst (v := 0) hx hb dX9_mean_41 (by decide) ?_
        refine lv_istore (lv' := [(4, .int (0 : Int32)), (2, .long (0 : Int64)), (0, .ref (xB X 0)), (1, .int a1)]) hx hb dX9_mean_42 hl (by decide) rfl (fun ls hl => ?_)
        exact hL44 500 a1 (0 : Int64) (0 : Int32) mi ma _ _ ls (lv_sub hl [2, 3, 1, 0] rfl) hP hS h
      · replace h := if_t c30 h
        refine lv_aload_n hx hb dX9_mean_33 rfl (lv_at hl 0 rfl) ?_
        refine lv_iconst (v := 4) hx hb dX9_mean_34 (by decide) ?_
        obtain ⟨r35, mi_35, ma_35, hc35, h⟩ := bd3_e h
        refine wcV (As := [.int (4 : Int32)]) (rest := []) ⟨hx, hb, hml, hown, hts⟩ (c_X9_finds l X mi ml ma mb (4 : Int32) hc35) ⟨w_915, w_917, w_12, w_58, w_918⟩ hd_X9_finds rfl rfl ⟨(Nat.le_of_ble_eq_true rfl), (Nat.le_of_ble_eq_true rfl)⟩ ⟨Nat.zero_le _, Nat.zero_le _⟩ mPre_blind (va_recv hK hP (ci := 5) rfl cM_o) (mPre_call hP hK hN) hS (fun _ h => h) rfl rfl hl.1 (Nat.le_of_ble_eq_true rfl) dX9_mean_35 (fun H locs hP _ hS => ?_)
        have hP : va_P X.1 vwCl (cM X mi_35 ml ma_35 mb) H := hP
        refine W.eq (g2 := F0 m 38 ls [.int r35]) rfl ?_
        cases h
        exact W.iret hx hb hr (fun t ht _ => ⟨rfl, by rw [ht]; exact hP, hS.F ht⟩) hS.2.2 dX9_mean_38
    · replace h := if_f c15 h
      refine lv_aload_n hx hb dX9_mean_18 rfl (lv_at hl 0 rfl) ?_
      refine lv_iconst (v := 1) hx hb dX9_mean_19 (by decide) ?_
      obtain ⟨r20, mi_20, ma_20, hc20, h⟩ := bd3_e h
      refine wcV (As := [.int (1 : Int32)]) (rest := []) ⟨hx, hb, hml, hown, hts⟩ (c_X9_finds l X mi ml ma mb (1 : Int32) hc20) ⟨w_915, w_917, w_12, w_58, w_918⟩ hd_X9_finds rfl rfl ⟨(Nat.le_of_ble_eq_true rfl), (Nat.le_of_ble_eq_true rfl)⟩ ⟨Nat.zero_le _, Nat.zero_le _⟩ mPre_blind (va_recv hK hP (ci := 5) rfl cM_o) (mPre_call hP hK hN) hS (fun _ h => h) rfl rfl hl.1 (Nat.le_of_ble_eq_true rfl) dX9_mean_20 (fun H locs hP _ hS => ?_)
      have hP : va_P X.1 vwCl (cM X mi_20 ml ma_20 mb) H := hP
      refine W.eq (g2 := F0 m 23 ls [.int r20]) rfl ?_
      cases h
      exact W.iret hx hb hr (fun t ht _ => ⟨rfl, by rw [ht]; exact hP, hS.F ht⟩) hS.2.2 dX9_mean_23
  · replace h := if_t c4 h
    refine lv_iconst (v := -1) hx hb dX9_mean_7 (by decide) ?_
    cases h
    exact W.iret hx hb hr (fun t ht _ => ⟨rfl, by rw [ht]; exact hP, hS.F ht⟩) hS.2.2 dX9_mean_8
set_option maxRecDepth 100000 in
set_option maxHeartbeats 4000000 in
theorem c_X9_text (l : Launch) (X : gX) (mi : Nat → Int32) (ml : Nat → Int64) (ma : Nat → Nat → Int32) (mb : Nat → Nat → Int64) (a1 : Int32) (a2 : Int32) {o0 : Int32} {o_mi : Nat → Int32} {o_ma : Nat → Nat → Int32} (h : X9_text a1 a2 mi ma = some (o0, o_mi, o_ma)) : Met l yX9_text (Cond.code yX9_text cX9_text 4 (some .int) :: gT) { frames := 2, cells := 0, slots := 0, locals := 45 } (va_Pc [.ref (xB X 0), .int a1, .int a2] (mPre X mi ml ma mb)) (wQ (some (.int o0)) (fun H => va_P X.1 vwCl (cM X o_mi ml o_ma mb) H) (mA X)) 0 0 (mA X) := by
  refine Met.ofW (cc := cX9_text) (maxL := 4) (ret := (some .int)) (by decide) rfl ?_
  intro p e s m args below meth c s₁ B hml hv
  obtain ⟨rfl, hP, hK, hN⟩ := hv
  have hx := B.exec
  have hb := B.bytes
  have hr := B.returns
  have hts := atoms_spec (ws := (Cond.code yX9_text cX9_text 4 (some .int) :: gT)) B.pre
  have hT : ∀ w ∈ gT, w.before _ s = true := fun w hw => hts w (List.mem_cons_of_mem _ hw)
  have hown : s.vm.findClass RX9 = some m.cls := findClass_of_methodNamed B.named
  have hlocks := B.notSynchronized
  have hS : va_S (mA X) s.heap s.heap [] := va_S.rf
  have hl := lv_entry ([.ref (xB X 0), .int a1, .int a2]) (n := 4) (Nat.le_of_ble_eq_true rfl)
  rw [lg_entry_eq]
  generalize (lg_sl ([.ref (xB X 0), .int a1, .int a2]) ++ List.replicate (4 - (lg_sl ([.ref (xB X 0), .int a1, .int a2])).length) Slot.unset).toArray = ls at hl ⊢
  have hl : lv_has ls 4 [(0, .ref (xB X 0)), (1, .int a1), (2, .int a2)] := hl
  have hL34 : ∀ (n34 : Nat) (v1 : Int32) (v2 : Int32) (v3 : Int32) (mi : Nat → Int32) (ma : Nat → Nat → Int32) (H : Heap) (locs : List Loc) (ls : Array Slot), lv_has ls 4 [(0, .ref (xB X 0)), (1, .int v1), (2, .int v2), (3, .int v3)] → va_P X.1 vwCl (cM X mi ml ma mb) H → va_S (mA X) s.heap H locs → X9_text_34 n34 v1 v2 v3 mi ma = some (o0, o_mi, o_ma) → W p l e (headSpec (Cond.code yX9_text cX9_text 4 (some .int) :: gT) { frames := 2, cells := 0, slots := 0, locals := 45 }).room s m [.ref (xB X 0), .int a1, .int a2].toArray below meth c H locs 0 0 (MQ below (wQ (some (.int o0)) (fun H => va_P X.1 vwCl (cM X o_mi ml o_ma mb) H) (mA X)) [.ref (xB X 0), .int a1, .int a2].toArray s 0 0 (mA X)) (F0 m 34 ls []) := by
    intro n34
    induction n34 with
    | zero =>
      intro v1 v2 v3 mi ma H locs ls hl hP hS h
      rw [X9_text_34] at h
      cases h
    | succ n34 ih34 =>
      intro v1 v2 v3 mi ma H locs ls hl hP hS h
      rw [X9_text_34] at h
      refine lv_iload_n hx hb dX9_text_34 rfl (lv_at hl 3 rfl) ?_
      refine lv_bipush (v := 60) hx hb dX9_text_35 (by decide) ?_
      refine lv_icmp_ge (tgt := 59) hx hb dX9_text_37 (by decide) (fun c37 => ?_) (fun c37 => ?_)
      · replace h := if_t c37 h
        refine lv_iload_n hx hb dX9_text_59 rfl (lv_at hl 2 rfl) ?_
        cases h
        exact W.iret hx hb hr (fun t ht _ => ⟨rfl, by rw [ht]; exact hP, hS.F ht⟩) hS.2.2 dX9_text_60
      · replace h := if_f c37 h
        refine lv_aload_n hx hb dX9_text_40 rfl (lv_at hl 0 rfl) ?_
        refine rg_M_texts hx hb hT hown hK hP w_799 dX9_text_41 ?_
        refine lv_bipush (v := 60) hx hb dX9_text_44 (by decide) ?_
        refine lv_iload_n hx hb dX9_text_46 rfl (lv_at hl 1 rfl) ?_
        refine lv_imul hx hb dX9_text_47 ?_
        refine lv_iload_n hx hb dX9_text_48 rfl (lv_at hl 3 rfl) ?_
        refine lv_iadd hx hb dX9_text_49 ?_
        refine lv_bipush (v := 32) hx hb dX9_text_50 (by decide) ?_
        obtain ⟨hi52, h⟩ := gd_e h
        refine rs_m13 hx hb hK hP hN hS (ib_in hi52) dX9_text_52 (fun H locs hP hS => ?_)
        generalize ema_52 : va_up ma 13 (upd (ma 13) (((60 : Int32) * v1) + v3).toNatClampNeg (32 : Int32)) = ma_52 at hP
        replace h := lt_g h ema_52
        refine lv_iinc (v := (v3 + (1 : Int32))) (lv' := [(3, .int (v3 + (1 : Int32))), (0, .ref (xB X 0)), (1, .int v1), (2, .int v2)]) hx hb dX9_text_53 hl (k := 3) rfl rfl (by decide) rfl (fun ls hl => ?_)
        refine lv_goto (tgt := 34) hx hb dX9_text_56 (by decide) ?_
        exact ih34 v1 v2 (v3 + (1 : Int32)) mi ma_52 _ _ ls (lv_sub hl [1, 2, 3, 0] rfl) hP hS h
  rw [X9_text] at h
  refine lv_iload_n hx hb dX9_text_0 rfl (lv_at hl 1 rfl) ?_
  obtain ⟨r1, hc1, h⟩ := Option.bind_eq_some_iff.mp h
  refine rcS (As := [.int a1]) (rest := []) ⟨hx, hb, hml, hown, hts⟩ (c_X9_isText l a1 hc1) ⟨w_943, w_944, w_58, w_945⟩ hd_X9_isText rfl rfl ⟨(Nat.le_of_ble_eq_true rfl), (Nat.le_of_ble_eq_true rfl)⟩ ⟨Nat.zero_le _, Nat.zero_le _⟩ (fun _ _ _ _ h => h) (fun _ _ _ => trivial) rfl rfl hl.1 (Nat.le_of_ble_eq_true rfl) dX9_text_1 ?_
  refine lv_if_eq (tgt := 13) hx hb dX9_text_4 (by decide) (fun c4 => ?_) (fun c4 => ?_)
  · replace h := if_t c4 h
    refine lv_iconst (v := -1) hx hb dX9_text_13 (by decide) ?_
    cases h
    exact W.iret hx hb hr (fun t ht _ => ⟨rfl, by rw [ht]; exact hP, hS.F ht⟩) hS.2.2 dX9_text_14
  · replace h := if_f c4 h
    refine lv_iload_n hx hb dX9_text_7 rfl (lv_at hl 2 rfl) ?_
    refine lv_bipush (v := 60) hx hb dX9_text_8 (by decide) ?_
    refine lv_icmp_le (tgt := 15) hx hb dX9_text_10 (by decide) (fun c10 => ?_) (fun c10 => ?_)
    · replace h := if_t c10 h
      refine lv_iload_n hx hb dX9_text_15 rfl (lv_at hl 2 rfl) ?_
      refine lv_if_ge (tgt := 25) hx hb dX9_text_16 (by decide) (fun c16 => ?_) (fun c16 => ?_)
      · replace h := if_t c16 h
        refine lv_aload_n hx hb dX9_text_25 rfl (lv_at hl 0 rfl) ?_
        refine rg_M_textSize hx hb hT hown hK hP w_798 dX9_text_26 ?_
        refine lv_iload_n hx hb dX9_text_29 rfl (lv_at hl 1 rfl) ?_
        refine lv_iload_n hx hb dX9_text_30 rfl (lv_at hl 2 rfl) ?_
        obtain ⟨hi31, h⟩ := gd_e h
        refine rs_m12 hx hb hK hP hN hS (ib_in hi31) dX9_text_31 (fun H locs hP hS => ?_)
        generalize ema_31 : va_up ma 12 (upd (ma 12) a1.toNatClampNeg a2) = ma_31 at hP
        replace h := lt_g h ema_31
        refine lv_iconst (v := 0) hx hb dX9_text_32 (by decide) ?_
        refine lv_istore_n (lv' := [(3, .int (0 : Int32)), (0, .ref (xB X 0)), (1, .int a1), (2, .int a2)]) hx hb dX9_text_33 rfl hl (by decide) rfl (fun ls hl => ?_)
        exact hL34 500 a1 a2 (0 : Int32) mi ma_31 _ _ ls (lv_sub hl [1, 2, 3, 0] rfl) hP hS h
      · replace h := if_f c16 h
        refine lv_aload_n hx hb dX9_text_19 rfl (lv_at hl 0 rfl) ?_
        refine lv_iconst (v := 5) hx hb dX9_text_20 (by decide) ?_
        obtain ⟨r21, mi_21, ma_21, hc21, h⟩ := bd3_e h
        refine wcV (As := [.int (5 : Int32)]) (rest := []) ⟨hx, hb, hml, hown, hts⟩ (c_X9_finds l X mi ml ma mb (5 : Int32) hc21) ⟨w_915, w_917, w_12, w_58, w_918⟩ hd_X9_finds rfl rfl ⟨(Nat.le_of_ble_eq_true rfl), (Nat.le_of_ble_eq_true rfl)⟩ ⟨Nat.zero_le _, Nat.zero_le _⟩ mPre_blind (va_recv hK hP (ci := 5) rfl cM_o) (mPre_call hP hK hN) hS (fun _ h => h) rfl rfl hl.1 (Nat.le_of_ble_eq_true rfl) dX9_text_21 (fun H locs hP _ hS => ?_)
        have hP : va_P X.1 vwCl (cM X mi_21 ml ma_21 mb) H := hP
        refine W.eq (g2 := F0 m 24 ls [.int r21]) rfl ?_
        cases h
        exact W.iret hx hb hr (fun t ht _ => ⟨rfl, by rw [ht]; exact hP, hS.F ht⟩) hS.2.2 dX9_text_24
    · replace h := if_f c10 h
      refine lv_iconst (v := -1) hx hb dX9_text_13 (by decide) ?_
      cases h
      exact W.iret hx hb hr (fun t ht _ => ⟨rfl, by rw [ht]; exact hP, hS.F ht⟩) hS.2.2 dX9_text_14
set_option maxRecDepth 100000 in
set_option maxHeartbeats 4000000 in
theorem c_X9_put (l : Launch) (X : gX) (mi : Nat → Int32) (ml : Nat → Int64) (ma : Nat → Nat → Int32) (mb : Nat → Nat → Int64) (a1 : Int32) (a2 : Int32) (a3 : Int32) {o0 : Int32} {o_mi : Nat → Int32} {o_ma : Nat → Nat → Int32} (h : X9_put a1 a2 a3 mi ma = some (o0, o_mi, o_ma)) : Met l yX9_put (Cond.code yX9_put cX9_put 5 (some .int) :: gT) { frames := 2, cells := 0, slots := 0, locals := 45 } (va_Pc [.ref (xB X 0), .int a1, .int a2, .int a3] (mPre X mi ml ma mb)) (wQ (some (.int o0)) (fun H => va_P X.1 vwCl (cM X o_mi ml o_ma mb) H) (mA X)) 0 0 (mA X) := by
  refine Met.ofW (cc := cX9_put) (maxL := 5) (ret := (some .int)) (by decide) rfl ?_
  intro p e s m args below meth c s₁ B hml hv
  obtain ⟨rfl, hP, hK, hN⟩ := hv
  have hx := B.exec
  have hb := B.bytes
  have hr := B.returns
  have hts := atoms_spec (ws := (Cond.code yX9_put cX9_put 5 (some .int) :: gT)) B.pre
  have hT : ∀ w ∈ gT, w.before _ s = true := fun w hw => hts w (List.mem_cons_of_mem _ hw)
  have hown : s.vm.findClass RX9 = some m.cls := findClass_of_methodNamed B.named
  have hlocks := B.notSynchronized
  have hS : va_S (mA X) s.heap s.heap [] := va_S.rf
  have hl := lv_entry ([.ref (xB X 0), .int a1, .int a2, .int a3]) (n := 5) (Nat.le_of_ble_eq_true rfl)
  rw [lg_entry_eq]
  generalize (lg_sl ([.ref (xB X 0), .int a1, .int a2, .int a3]) ++ List.replicate (5 - (lg_sl ([.ref (xB X 0), .int a1, .int a2, .int a3])).length) Slot.unset).toArray = ls at hl ⊢
  have hl : lv_has ls 5 [(0, .ref (xB X 0)), (1, .int a1), (2, .int a2), (3, .int a3)] := hl
  rw [X9_put] at h
  refine lv_iload_n hx hb dX9_put_0 rfl (lv_at hl 1 rfl) ?_
  obtain ⟨r1, hc1, h⟩ := Option.bind_eq_some_iff.mp h
  refine rcS (As := [.int a1]) (rest := []) ⟨hx, hb, hml, hown, hts⟩ (c_X9_isText l a1 hc1) ⟨w_943, w_944, w_58, w_945⟩ hd_X9_isText rfl rfl ⟨(Nat.le_of_ble_eq_true rfl), (Nat.le_of_ble_eq_true rfl)⟩ ⟨Nat.zero_le _, Nat.zero_le _⟩ (fun _ _ _ _ h => h) (fun _ _ _ => trivial) rfl rfl hl.1 (Nat.le_of_ble_eq_true rfl) dX9_put_1 ?_
  refine lv_if_ne (tgt := 9) hx hb dX9_put_4 (by decide) (fun c4 => ?_) (fun c4 => ?_)
  · replace h := if_f c4 h
    refine lv_aload_n hx hb dX9_put_9 rfl (lv_at hl 0 rfl) ?_
    refine rg_M_textSize hx hb hT hown hK hP w_798 dX9_put_10 ?_
    refine lv_iload_n hx hb dX9_put_13 rfl (lv_at hl 1 rfl) ?_
    obtain ⟨hi14, h⟩ := gd_e h
    refine ra_m12 hx hb hK hP (ib_in hi14) dX9_put_14 ?_
    refine lv_if_ge (tgt := 24) hx hb dX9_put_15 (by decide) (fun c15 => ?_) (fun c15 => ?_)
    · replace h := if_t c15 h
      refine lv_iload_n hx hb dX9_put_24 rfl (lv_at hl 2 rfl) ?_
      refine lv_i2l hx hb dX9_put_25 rfl ?_
      refine lv_lconst (v := 0) hx hb dX9_put_26 (by decide) ?_
      refine lv_aload_n hx hb dX9_put_27 rfl (lv_at hl 0 rfl) ?_
      refine rg_M_textSize hx hb hT hown hK hP w_798 dX9_put_28 ?_
      refine lv_iload_n hx hb dX9_put_31 rfl (lv_at hl 1 rfl) ?_
      obtain ⟨hi32, h⟩ := gd_e h
      refine ra_m12 hx hb hK hP (ib_in hi32) dX9_put_32 ?_
      refine lv_iconst (v := 1) hx hb dX9_put_33 (by decide) ?_
      refine lv_isub hx hb dX9_put_34 ?_
      refine lv_i2l hx hb dX9_put_35 rfl ?_
      obtain ⟨r36, hc36, h⟩ := Option.bind_eq_some_iff.mp h
      refine rcS (As := [.long a2.toInt64, .long (0 : Int64), .long (((ma 12 a1.toNatClampNeg) - (1 : Int32)).toInt64)]) (rest := []) ⟨hx, hb, hml, hown, hts⟩ (c_X9_in l a2.toInt64 (0 : Int64) (((ma 12 a1.toNatClampNeg) - (1 : Int32)).toInt64) hc36) ⟨w_912, w_913, w_58, w_914⟩ hd_X9_in rfl rfl ⟨(Nat.le_of_ble_eq_true rfl), (Nat.le_of_ble_eq_true rfl)⟩ ⟨Nat.zero_le _, Nat.zero_le _⟩ (fun _ _ _ _ h => h) (fun _ _ _ => trivial) rfl rfl hl.1 (Nat.le_of_ble_eq_true rfl) dX9_put_36 ?_
      refine lv_if_ne (tgt := 48) hx hb dX9_put_39 (by decide) (fun c39 => ?_) (fun c39 => ?_)
      · replace h := if_f c39 h
        refine lv_aload_n hx hb dX9_put_48 rfl (lv_at hl 0 rfl) ?_
        refine rg_M_texts hx hb hT hown hK hP w_799 dX9_put_49 ?_
        refine lv_bipush (v := 60) hx hb dX9_put_52 (by decide) ?_
        refine lv_iload_n hx hb dX9_put_54 rfl (lv_at hl 1 rfl) ?_
        refine lv_imul hx hb dX9_put_55 ?_
        refine lv_iload_n hx hb dX9_put_56 rfl (lv_at hl 2 rfl) ?_
        refine lv_iadd hx hb dX9_put_57 ?_
        obtain ⟨hi58, h⟩ := gd_e h
        refine ra_m13 hx hb hK hP (ib_in hi58) dX9_put_58 ?_
        refine lv_istore (lv' := [(4, .int (ma 13 (((60 : Int32) * a1) + a2).toNatClampNeg)), (0, .ref (xB X 0)), (1, .int a1), (2, .int a2), (3, .int a3)]) hx hb dX9_put_59 hl (by decide) rfl (fun ls hl => ?_)
        refine lv_aload_n hx hb dX9_put_61 rfl (lv_at hl 1 rfl) ?_
        refine rg_M_texts hx hb hT hown hK hP w_799 dX9_put_62 ?_
        refine lv_bipush (v := 60) hx hb dX9_put_65 (by decide) ?_
        refine lv_iload_n hx hb dX9_put_67 rfl (lv_at hl 2 rfl) ?_
        refine lv_imul hx hb dX9_put_68 ?_
        refine lv_iload_n hx hb dX9_put_69 rfl (lv_at hl 3 rfl) ?_
        refine lv_iadd hx hb dX9_put_70 ?_
        refine lv_iload_n hx hb dX9_put_71 rfl (lv_at hl 4 rfl) ?_
        refine lv_i2b hx hb dX9_put_72 rfl ?_
        obtain ⟨hi73, h⟩ := gd_e h
        refine rs_m13 hx hb hK hP hN hS (ib_in hi73) dX9_put_73 (fun H locs hP hS => ?_)
        generalize ema_73 : va_up ma 13 (upd (ma 13) (((60 : Int32) * a1) + a2).toNatClampNeg a3.toInt8.toInt32) = ma_73 at hP
        replace h := lt_g h ema_73
        refine lv_sipush (v := 1000) hx hb dX9_put_74 (by decide) ?_
        refine lv_iload hx hb dX9_put_77 (lv_at hl 0 rfl) ?_
        refine lv_iadd hx hb dX9_put_79 ?_
        cases h
        exact W.iret hx hb hr (fun t ht _ => ⟨rfl, by rw [ht]; exact hP, hS.F ht⟩) hS.2.2 dX9_put_80
      · replace h := if_t c39 h
        refine lv_aload_n hx hb dX9_put_42 rfl (lv_at hl 0 rfl) ?_
        refine lv_iconst (v := 2) hx hb dX9_put_43 (by decide) ?_
        obtain ⟨r44, mi_44, ma_44, hc44, h⟩ := bd3_e h
        refine wcV (As := [.int (2 : Int32)]) (rest := []) ⟨hx, hb, hml, hown, hts⟩ (c_X9_finds l X mi ml ma mb (2 : Int32) hc44) ⟨w_915, w_917, w_12, w_58, w_918⟩ hd_X9_finds rfl rfl ⟨(Nat.le_of_ble_eq_true rfl), (Nat.le_of_ble_eq_true rfl)⟩ ⟨Nat.zero_le _, Nat.zero_le _⟩ mPre_blind (va_recv hK hP (ci := 5) rfl cM_o) (mPre_call hP hK hN) hS (fun _ h => h) rfl rfl hl.1 (Nat.le_of_ble_eq_true rfl) dX9_put_44 (fun H locs hP _ hS => ?_)
        have hP : va_P X.1 vwCl (cM X mi_44 ml ma_44 mb) H := hP
        refine W.eq (g2 := F0 m 47 ls [.int r44]) rfl ?_
        cases h
        exact W.iret hx hb hr (fun t ht _ => ⟨rfl, by rw [ht]; exact hP, hS.F ht⟩) hS.2.2 dX9_put_47
    · replace h := if_f c15 h
      refine lv_aload_n hx hb dX9_put_18 rfl (lv_at hl 0 rfl) ?_
      refine lv_iconst (v := 1) hx hb dX9_put_19 (by decide) ?_
      obtain ⟨r20, mi_20, ma_20, hc20, h⟩ := bd3_e h
      refine wcV (As := [.int (1 : Int32)]) (rest := []) ⟨hx, hb, hml, hown, hts⟩ (c_X9_finds l X mi ml ma mb (1 : Int32) hc20) ⟨w_915, w_917, w_12, w_58, w_918⟩ hd_X9_finds rfl rfl ⟨(Nat.le_of_ble_eq_true rfl), (Nat.le_of_ble_eq_true rfl)⟩ ⟨Nat.zero_le _, Nat.zero_le _⟩ mPre_blind (va_recv hK hP (ci := 5) rfl cM_o) (mPre_call hP hK hN) hS (fun _ h => h) rfl rfl hl.1 (Nat.le_of_ble_eq_true rfl) dX9_put_20 (fun H locs hP _ hS => ?_)
      have hP : va_P X.1 vwCl (cM X mi_20 ml ma_20 mb) H := hP
      refine W.eq (g2 := F0 m 23 ls [.int r20]) rfl ?_
      cases h
      exact W.iret hx hb hr (fun t ht _ => ⟨rfl, by rw [ht]; exact hP, hS.F ht⟩) hS.2.2 dX9_put_23
  · replace h := if_t c4 h
    refine lv_iconst (v := -1) hx hb dX9_put_7 (by decide) ?_
    cases h
    exact W.iret hx hb hr (fun t ht _ => ⟨rfl, by rw [ht]; exact hP, hS.F ht⟩) hS.2.2 dX9_put_8
set_option maxRecDepth 100000 in
set_option maxHeartbeats 4000000 in
theorem c_X9_byteOf (l : Launch) (X : gX) (mi : Nat → Int32) (ml : Nat → Int64) (ma : Nat → Nat → Int32) (mb : Nat → Nat → Int64) (a1 : Int32) {o0 : Int32} (h : X9_byteOf mi ma a1 = some o0) : Met l yX9_byteOf (Cond.code yX9_byteOf cX9_byteOf 2 (some .int) :: gT) { frames := 0, cells := 0, slots := 0, locals := 0 } (va_Pc [.ref (xB X 0), .int a1] (mPre X mi ml ma mb)) (k2_QcV (.int o0)) 0 0 (fun _ => False) := by
  refine Met.ofW (cc := cX9_byteOf) (maxL := 2) (ret := (some .int)) (by decide) rfl ?_
  intro p e s m args below meth c s₁ B hml hv
  obtain ⟨rfl, hP, hK, hN⟩ := hv
  have hx := B.exec
  have hb := B.bytes
  have hr := B.returns
  have hts := atoms_spec (ws := (Cond.code yX9_byteOf cX9_byteOf 2 (some .int) :: gT)) B.pre
  have hT : ∀ w ∈ gT, w.before _ s = true := fun w hw => hts w (List.mem_cons_of_mem _ hw)
  have hown : s.vm.findClass RX9 = some m.cls := findClass_of_methodNamed B.named
  have hlocks := B.notSynchronized
  have hS : va_S (mA X) s.heap s.heap [] := va_S.rf
  have hl := lv_entry ([.ref (xB X 0), .int a1]) (n := 2) (Nat.le_of_ble_eq_true rfl)
  rw [lg_entry_eq]
  generalize (lg_sl ([.ref (xB X 0), .int a1]) ++ List.replicate (2 - (lg_sl ([.ref (xB X 0), .int a1])).length) Slot.unset).toArray = ls at hl ⊢
  have hl : lv_has ls 2 [(0, .ref (xB X 0)), (1, .int a1)] := hl
  rw [X9_byteOf] at h
  refine lv_aload_n hx hb dX9_byteOf_0 rfl (lv_at hl 0 rfl) ?_
  refine rg_M_textAt hx hb hT hown hK hP w_811 dX9_byteOf_1 ?_
  refine lv_aload_n hx hb dX9_byteOf_4 rfl (lv_at hl 0 rfl) ?_
  refine rg_M_textSize hx hb hT hown hK hP w_798 dX9_byteOf_5 ?_
  refine lv_iload_n hx hb dX9_byteOf_8 rfl (lv_at hl 1 rfl) ?_
  obtain ⟨hi9, h⟩ := gd_e h
  refine ra_m12 hx hb hK hP (ib_in hi9) dX9_byteOf_9 ?_
  refine lv_icmp_ge (tgt := 30) hx hb dX9_byteOf_10 (by decide) (fun c10 => ?_) (fun c10 => ?_)
  · replace h := if_t c10 h
    refine lv_sipush (v := -1000) hx hb dX9_byteOf_30 (by decide) ?_
    cases h
    exact W.iret hx hb hr (fun t ht _ => ⟨rfl, ht⟩) (fun _ hq => by cases hq) dX9_byteOf_33
  · replace h := if_f c10 h
    refine lv_aload_n hx hb dX9_byteOf_13 rfl (lv_at hl 0 rfl) ?_
    refine rg_M_texts hx hb hT hown hK hP w_799 dX9_byteOf_14 ?_
    refine lv_bipush (v := 60) hx hb dX9_byteOf_17 (by decide) ?_
    refine lv_iload_n hx hb dX9_byteOf_19 rfl (lv_at hl 1 rfl) ?_
    refine lv_imul hx hb dX9_byteOf_20 ?_
    refine lv_aload_n hx hb dX9_byteOf_21 rfl (lv_at hl 0 rfl) ?_
    refine rg_M_textAt hx hb hT hown hK hP w_811 dX9_byteOf_22 ?_
    refine lv_iadd hx hb dX9_byteOf_25 ?_
    obtain ⟨hi26, h⟩ := gd_e h
    refine ra_m13 hx hb hK hP (ib_in hi26) dX9_byteOf_26 ?_
    refine lv_goto (tgt := 33) hx hb dX9_byteOf_27 (by decide) ?_
    cases h
    exact W.iret hx hb hr (fun t ht _ => ⟨rfl, ht⟩) (fun _ hq => by cases hq) dX9_byteOf_33
set_option maxRecDepth 100000 in
set_option maxHeartbeats 4000000 in
theorem c_X9_skip (l : Launch) (X : gX) (mi : Nat → Int32) (ml : Nat → Int64) (ma : Nat → Nat → Int32) (mb : Nat → Nat → Int64) (a1 : Int32) {o_mi : Nat → Int32} (h : X9_skip ma a1 mi = some o_mi) : Met l yX9_skip (Cond.code yX9_skip cX9_skip 2 none :: gT) { frames := 1, cells := 0, slots := 0, locals := 21 } (va_Pc [.ref (xB X 0), .int a1] (mPre X mi ml ma mb)) (wQ none (fun H => va_P X.1 vwCl (cM X o_mi ml ma mb) H) (mA X)) 0 0 (mA X) := by
  refine Met.ofW (cc := cX9_skip) (maxL := 2) (ret := none) (by decide) rfl ?_
  intro p e s m args below meth c s₁ B hml hv
  obtain ⟨rfl, hP, hK, hN⟩ := hv
  have hx := B.exec
  have hb := B.bytes
  have hr := B.returns
  have hts := atoms_spec (ws := (Cond.code yX9_skip cX9_skip 2 none :: gT)) B.pre
  have hT : ∀ w ∈ gT, w.before _ s = true := fun w hw => hts w (List.mem_cons_of_mem _ hw)
  have hown : s.vm.findClass RX9 = some m.cls := findClass_of_methodNamed B.named
  have hlocks := B.notSynchronized
  have hS : va_S (mA X) s.heap s.heap [] := va_S.rf
  have hl := lv_entry ([.ref (xB X 0), .int a1]) (n := 2) (Nat.le_of_ble_eq_true rfl)
  rw [lg_entry_eq]
  generalize (lg_sl ([.ref (xB X 0), .int a1]) ++ List.replicate (2 - (lg_sl ([.ref (xB X 0), .int a1])).length) Slot.unset).toArray = ls at hl ⊢
  have hl : lv_has ls 2 [(0, .ref (xB X 0)), (1, .int a1)] := hl
  have hL0 : ∀ (n0 : Nat) (v1 : Int32) (mi : Nat → Int32) (H : Heap) (locs : List Loc) (ls : Array Slot), lv_has ls 2 [(0, .ref (xB X 0)), (1, .int v1)] → va_P X.1 vwCl (cM X mi ml ma mb) H → va_S (mA X) s.heap H locs → X9_skip_0 ma n0 v1 mi = some o_mi → W p l e (headSpec (Cond.code yX9_skip cX9_skip 2 none :: gT) { frames := 1, cells := 0, slots := 0, locals := 21 }).room s m [.ref (xB X 0), .int a1].toArray below meth c H locs 0 0 (MQ below (wQ none (fun H => va_P X.1 vwCl (cM X o_mi ml ma mb) H) (mA X)) [.ref (xB X 0), .int a1].toArray s 0 0 (mA X)) (F0 m 0 ls []) := by
    intro n0
    induction n0 with
    | zero =>
      intro v1 mi H locs ls hl hP hS h
      rw [X9_skip_0] at h
      cases h
    | succ n0 ih0 =>
      intro v1 mi H locs ls hl hP hS h
      rw [X9_skip_0] at h
      refine lv_aload_n hx hb dX9_skip_0 rfl (lv_at hl 0 rfl) ?_
      refine lv_iload_n hx hb dX9_skip_1 rfl (lv_at hl 1 rfl) ?_
      obtain ⟨r2, hc2, h⟩ := Option.bind_eq_some_iff.mp h
      refine rcV (As := [.int v1]) (rest := []) ⟨hx, hb, hml, hown, hts⟩ (c_X9_byteOf l X mi ml ma mb v1 hc2) ⟨w_963, w_965, w_15, w_58, w_966⟩ hd_X9_byteOf rfl rfl ⟨(Nat.le_of_ble_eq_true rfl), (Nat.le_of_ble_eq_true rfl)⟩ ⟨Nat.zero_le _, Nat.zero_le _⟩ mPre_blind (va_recv hK hP (ci := 5) rfl cM_o) (mPre_call hP hK hN) rfl rfl hl.1 (Nat.le_of_ble_eq_true rfl) dX9_skip_2 ?_
      refine lv_bipush (v := 32) hx hb dX9_skip_5 (by decide) ?_
      refine lv_icmp_ne (tgt := 23) hx hb dX9_skip_7 (by decide) (fun c7 => ?_) (fun c7 => ?_)
      · replace h := if_f c7 h
        cases h
        exact W.vret hx hb hr (fun t ht _ => ⟨rfl, by rw [ht]; exact hP, hS.F ht⟩) hS.2.2 dX9_skip_23
      · replace h := if_t c7 h
        refine lv_aload_n hx hb dX9_skip_10 rfl (lv_at hl 0 rfl) ?_
        refine lv_dup hx hb dX9_skip_11 rfl ?_
        refine rg_M_textAt hx hb hT hown hK hP w_811 dX9_skip_12 ?_
        refine lv_iconst (v := 1) hx hb dX9_skip_15 (by decide) ?_
        refine lv_iadd hx hb dX9_skip_16 ?_
        refine rp_M_textAt hx hb hT hown hK hP hN hS w_811 dX9_skip_17 (fun H locs hP hS => ?_)
        generalize emi_17 : va_up mi 5 ((mi 5) + (1 : Int32)) = mi_17 at hP
        replace h := lt_g h emi_17
        refine lv_goto (tgt := 0) hx hb dX9_skip_20 (by decide) ?_
        exact ih0 v1 mi_17 _ _ ls (lv_sub hl [0, 1] rfl) hP hS h
  rw [X9_skip] at h
  exact hL0 500 a1 mi _ _ ls (lv_sub hl [0, 1] rfl) hP hS h
set_option maxRecDepth 100000 in
set_option maxHeartbeats 4000000 in
theorem c_X9_figure (l : Launch) (X : gX) (mi : Nat → Int32) (ml : Nat → Int64) (ma : Nat → Nat → Int32) (mb : Nat → Nat → Int64) (a1 : Int32) (a2 : Int32) (a3 : Int32) {o0 : Int32} {o_mi : Nat → Int32} (h : X9_figure ma a1 a2 a3 mi = some (o0, o_mi)) : Met l yX9_figure (Cond.code yX9_figure cX9_figure 5 (some .int) :: gT) { frames := 1, cells := 0, slots := 0, locals := 25 } (va_Pc [.ref (xB X 0), .int a1, .int a2, .int a3] (mPre X mi ml ma mb)) (wQ (some (.int o0)) (fun H => va_P X.1 vwCl (cM X o_mi ml ma mb) H) (mA X)) 0 0 (mA X) := by
  refine Met.ofW (cc := cX9_figure) (maxL := 5) (ret := (some .int)) (by decide) rfl ?_
  intro p e s m args below meth c s₁ B hml hv
  obtain ⟨rfl, hP, hK, hN⟩ := hv
  have hx := B.exec
  have hb := B.bytes
  have hr := B.returns
  have hts := atoms_spec (ws := (Cond.code yX9_figure cX9_figure 5 (some .int) :: gT)) B.pre
  have hT : ∀ w ∈ gT, w.before _ s = true := fun w hw => hts w (List.mem_cons_of_mem _ hw)
  have hown : s.vm.findClass RX9 = some m.cls := findClass_of_methodNamed B.named
  have hlocks := B.notSynchronized
  have hS : va_S (mA X) s.heap s.heap [] := va_S.rf
  have hl := lv_entry ([.ref (xB X 0), .int a1, .int a2, .int a3]) (n := 5) (Nat.le_of_ble_eq_true rfl)
  rw [lg_entry_eq]
  generalize (lg_sl ([.ref (xB X 0), .int a1, .int a2, .int a3]) ++ List.replicate (5 - (lg_sl ([.ref (xB X 0), .int a1, .int a2, .int a3])).length) Slot.unset).toArray = ls at hl ⊢
  have hl : lv_has ls 5 [(0, .ref (xB X 0)), (1, .int a1), (2, .int a2), (3, .int a3)] := hl
  rw [X9_figure] at h
  refine lv_aload_n hx hb dX9_figure_0 rfl (lv_at hl 0 rfl) ?_
  refine lv_iload_n hx hb dX9_figure_1 rfl (lv_at hl 1 rfl) ?_
  obtain ⟨r2, hc2, h⟩ := Option.bind_eq_some_iff.mp h
  refine rcV (As := [.int a1]) (rest := []) ⟨hx, hb, hml, hown, hts⟩ (c_X9_byteOf l X mi ml ma mb a1 hc2) ⟨w_963, w_965, w_15, w_58, w_966⟩ hd_X9_byteOf rfl rfl ⟨(Nat.le_of_ble_eq_true rfl), (Nat.le_of_ble_eq_true rfl)⟩ ⟨Nat.zero_le _, Nat.zero_le _⟩ mPre_blind (va_recv hK hP (ci := 5) rfl cM_o) (mPre_call hP hK hN) rfl rfl hl.1 (Nat.le_of_ble_eq_true rfl) dX9_figure_2 ?_
  refine lv_istore (lv' := [(4, .int r2), (0, .ref (xB X 0)), (1, .int a1), (2, .int a2), (3, .int a3)]) hx hb dX9_figure_5 hl (by decide) rfl (fun ls hl => ?_)
  refine lv_aload_n hx hb dX9_figure_7 rfl (lv_at hl 1 rfl) ?_
  refine rg_M_faultAt hx hb hT hown hK hP w_812 dX9_figure_8 ?_
  refine lv_if_lt (tgt := 16) hx hb dX9_figure_11 (by decide) (fun c11 => ?_) (fun c11 => ?_)
  · replace h := if_t c11 h
    refine lv_iload hx hb dX9_figure_16 (lv_at hl 0 rfl) ?_
    refine lv_i2l hx hb dX9_figure_18 rfl ?_
    refine lv_bipush (v := 48) hx hb dX9_figure_19 (by decide) ?_
    refine lv_iload_n hx hb dX9_figure_21 rfl (lv_at hl 3 rfl) ?_
    refine lv_iadd hx hb dX9_figure_22 ?_
    refine lv_i2l hx hb dX9_figure_23 rfl ?_
    refine lv_bipush (v := 48) hx hb dX9_figure_24 (by decide) ?_
    refine lv_iload_n hx hb dX9_figure_26 rfl (lv_at hl 4 rfl) ?_
    refine lv_iadd hx hb dX9_figure_27 ?_
    refine lv_i2l hx hb dX9_figure_28 rfl ?_
    obtain ⟨r29, hc29, h⟩ := Option.bind_eq_some_iff.mp h
    refine rcS (As := [.long r2.toInt64, .long (((48 : Int32) + a2).toInt64), .long (((48 : Int32) + a3).toInt64)]) (rest := []) ⟨hx, hb, hml, hown, hts⟩ (c_X9_in l r2.toInt64 (((48 : Int32) + a2).toInt64) (((48 : Int32) + a3).toInt64) hc29) ⟨w_912, w_913, w_58, w_914⟩ hd_X9_in rfl rfl ⟨(Nat.le_of_ble_eq_true rfl), (Nat.le_of_ble_eq_true rfl)⟩ ⟨Nat.zero_le _, Nat.zero_le _⟩ (fun _ _ _ _ h => h) (fun _ _ _ => trivial) rfl rfl hl.1 (Nat.le_of_ble_eq_true rfl) dX9_figure_29 ?_
    refine lv_if_ne (tgt := 45) hx hb dX9_figure_32 (by decide) (fun c32 => ?_) (fun c32 => ?_)
    · replace h := if_f c32 h
      refine lv_aload_n hx hb dX9_figure_45 rfl (lv_at hl 1 rfl) ?_
      refine lv_dup hx hb dX9_figure_46 rfl ?_
      refine rg_M_textAt hx hb hT hown hK hP w_811 dX9_figure_47 ?_
      refine lv_iconst (v := 1) hx hb dX9_figure_50 (by decide) ?_
      refine lv_iadd hx hb dX9_figure_51 ?_
      refine rp_M_textAt hx hb hT hown hK hP hN hS w_811 dX9_figure_52 (fun H locs hP hS => ?_)
      generalize emi_52 : va_up mi 5 ((mi 5) + (1 : Int32)) = mi_52 at hP
      replace h := lt_g h emi_52
      refine lv_iload hx hb dX9_figure_55 (lv_at hl 0 rfl) ?_
      refine lv_bipush (v := 48) hx hb dX9_figure_57 (by decide) ?_
      refine lv_isub hx hb dX9_figure_59 ?_
      cases h
      exact W.iret hx hb hr (fun t ht _ => ⟨rfl, by rw [ht]; exact hP, hS.F ht⟩) hS.2.2 dX9_figure_60
    · replace h := if_t c32 h
      refine lv_aload_n hx hb dX9_figure_35 rfl (lv_at hl 1 rfl) ?_
      refine lv_aload_n hx hb dX9_figure_36 rfl (lv_at hl 1 rfl) ?_
      refine rg_M_textAt hx hb hT hown hK hP w_811 dX9_figure_37 ?_
      refine rp_M_faultAt hx hb hT hown hK hP hN hS w_812 dX9_figure_40 (fun H locs hP hS => ?_)
      generalize emi_40 : va_up mi 6 (mi 5) = mi_40 at hP
      replace h := lt_g h emi_40
      refine lv_iconst (v := 0) hx hb dX9_figure_43 (by decide) ?_
      cases h
      exact W.iret hx hb hr (fun t ht _ => ⟨rfl, by rw [ht]; exact hP, hS.F ht⟩) hS.2.2 dX9_figure_44
  · replace h := if_f c11 h
    refine lv_iconst (v := 0) hx hb dX9_figure_14 (by decide) ?_
    cases h
    exact W.iret hx hb hr (fun t ht _ => ⟨rfl, by rw [ht]; exact hP, hS.F ht⟩) hS.2.2 dX9_figure_15
set_option maxRecDepth 100000 in
set_option maxHeartbeats 4000000 in
theorem c_X9_readOne (l : Launch) (X : gX) (mi : Nat → Int32) (ml : Nat → Int64) (ma : Nat → Nat → Int32) (mb : Nat → Nat → Int64) (a1 : Int32) {o_mi : Nat → Int32} {o_ma : Nat → Nat → Int32} (h : X9_readOne a1 mi ma = some (o_mi, o_ma)) : Met l yX9_readOne (Cond.code yX9_readOne cX9_readOne 5 none :: gT) { frames := 2, cells := 0, slots := 0, locals := 49 } (va_Pc [.ref (xB X 0), .int a1] (mPre X mi ml ma mb)) (wQ none (fun H => va_P X.1 vwCl (cM X o_mi ml o_ma mb) H) (mA X)) 0 0 (mA X) := by
  refine Met.ofW (cc := cX9_readOne) (maxL := 5) (ret := none) (by decide) rfl ?_
  intro p e s m args below meth c s₁ B hml hv
  obtain ⟨rfl, hP, hK, hN⟩ := hv
  have hx := B.exec
  have hb := B.bytes
  have hr := B.returns
  have hts := atoms_spec (ws := (Cond.code yX9_readOne cX9_readOne 5 none :: gT)) B.pre
  have hT : ∀ w ∈ gT, w.before _ s = true := fun w hw => hts w (List.mem_cons_of_mem _ hw)
  have hown : s.vm.findClass RX9 = some m.cls := findClass_of_methodNamed B.named
  have hlocks := B.notSynchronized
  have hS : va_S (mA X) s.heap s.heap [] := va_S.rf
  have hl := lv_entry ([.ref (xB X 0), .int a1]) (n := 5) (Nat.le_of_ble_eq_true rfl)
  rw [lg_entry_eq]
  generalize (lg_sl ([.ref (xB X 0), .int a1]) ++ List.replicate (5 - (lg_sl ([.ref (xB X 0), .int a1])).length) Slot.unset).toArray = ls at hl ⊢
  have hl : lv_has ls 5 [(0, .ref (xB X 0)), (1, .int a1)] := hl
  have hL73 : ∀ (n73 : Nat) (v1 : Int32) (v3 : Int32) (v4 : Int32) (mi : Nat → Int32) (ma : Nat → Nat → Int32) (H : Heap) (locs : List Loc) (ls : Array Slot), lv_has ls 5 [(0, .ref (xB X 0)), (1, .int v1), (3, .int v3), (4, .int v4)] → va_P X.1 vwCl (cM X mi ml ma mb) H → va_S (mA X) s.heap H locs → X9_readOne_73 n73 v1 v3 v4 mi ma = some (o_mi, o_ma) → W p l e (headSpec (Cond.code yX9_readOne cX9_readOne 5 none :: gT) { frames := 2, cells := 0, slots := 0, locals := 49 }).room s m [.ref (xB X 0), .int a1].toArray below meth c H locs 0 0 (MQ below (wQ none (fun H => va_P X.1 vwCl (cM X o_mi ml o_ma mb) H) (mA X)) [.ref (xB X 0), .int a1].toArray s 0 0 (mA X)) (F0 m 73 ls []) := by
    intro n73
    induction n73 with
    | zero =>
      intro v1 v3 v4 mi ma H locs ls hl hP hS h
      rw [X9_readOne_73] at h
      cases h
    | succ n73 ih73 =>
      intro v1 v3 v4 mi ma H locs ls hl hP hS h
      rw [X9_readOne_73] at h
      refine lv_iload hx hb dX9_readOne_73 (lv_at hl 3 rfl) ?_
      refine lv_iconst (v := 3) hx hb dX9_readOne_75 (by decide) ?_
      refine lv_icmp_ge (tgt := 99) hx hb dX9_readOne_76 (by decide) (fun c76 => ?_) (fun c76 => ?_)
      · replace h := if_t c76 h
        refine lv_aload_n hx hb dX9_readOne_99 rfl (lv_at hl 0 rfl) ?_
        refine rg_M_readDays hx hb hT hown hK hP w_816 dX9_readOne_100 ?_
        refine lv_aload_n hx hb dX9_readOne_103 rfl (lv_at hl 0 rfl) ?_
        refine rg_M_readPeople hx hb hT hown hK hP w_813 dX9_readOne_104 ?_
        refine lv_iload_n hx hb dX9_readOne_107 rfl (lv_at hl 2 rfl) ?_
        obtain ⟨hi108, h⟩ := gd_e h
        refine rs_m27 hx hb hK hP hN hS (ib_in hi108) dX9_readOne_108 (fun H locs hP hS => ?_)
        generalize ema_108 : va_up ma 27 (upd (ma 27) (mi 7).toNatClampNeg v3) = ma_108 at hP
        replace h := lt_g h ema_108
        refine lv_aload_n hx hb dX9_readOne_109 rfl (lv_at hl 0 rfl) ?_
        refine lv_dup hx hb dX9_readOne_110 rfl ?_
        refine rg_M_readPeople hx hb hT hown hK hP w_813 dX9_readOne_111 ?_
        refine lv_iconst (v := 1) hx hb dX9_readOne_114 (by decide) ?_
        refine lv_iadd hx hb dX9_readOne_115 ?_
        refine rp_M_readPeople hx hb hT hown hK hP hN hS w_813 dX9_readOne_116 (fun H locs hP hS => ?_)
        generalize emi_116 : va_up mi 7 ((mi 7) + (1 : Int32)) = mi_116 at hP
        replace h := lt_g h emi_116
        cases h
        exact W.vret hx hb hr (fun t ht _ => ⟨rfl, by rw [ht]; exact hP, hS.F ht⟩) hS.2.2 dX9_readOne_119
      · replace h := if_f c76 h
        refine lv_bipush (v := 10) hx hb dX9_readOne_79 (by decide) ?_
        refine lv_iload_n hx hb dX9_readOne_81 rfl (lv_at hl 2 rfl) ?_
        refine lv_imul hx hb dX9_readOne_82 ?_
        refine lv_aload_n hx hb dX9_readOne_83 rfl (lv_at hl 0 rfl) ?_
        refine lv_iload_n hx hb dX9_readOne_84 rfl (lv_at hl 1 rfl) ?_
        refine lv_iconst (v := 0) hx hb dX9_readOne_85 (by decide) ?_
        refine lv_bipush (v := 9) hx hb dX9_readOne_86 (by decide) ?_
        obtain ⟨r88, mi_88, hc88, h⟩ := bd2_e h
        refine wcV (As := [.int v1, .int (0 : Int32), .int (9 : Int32)]) (rest := [.int ((10 : Int32) * v3)]) ⟨hx, hb, hml, hown, hts⟩ (c_X9_figure l X mi ml ma mb v1 (0 : Int32) (9 : Int32) hc88) ⟨w_974, w_976, w_17, w_58, w_977⟩ hd_X9_figure rfl rfl ⟨(Nat.le_of_ble_eq_true rfl), (Nat.le_of_ble_eq_true rfl)⟩ ⟨Nat.zero_le _, Nat.zero_le _⟩ mPre_blind (va_recv hK hP (ci := 5) rfl cM_o) (mPre_call hP hK hN) hS (fun _ h => h) rfl rfl hl.1 (Nat.le_of_ble_eq_true rfl) dX9_readOne_88 (fun H locs hP _ hS => ?_)
        have hP : va_P X.1 vwCl (cM X mi_88 ml ma mb) H := hP
        refine W.eq (g2 := F0 m 91 ls [.int r88, .int ((10 : Int32) * v3)]) rfl ?_
        refine lv_iadd hx hb dX9_readOne_91 ?_
        refine lv_istore_n (lv' := [(3, .int (((10 : Int32) * v3) + r88)), (0, .ref (xB X 0)), (1, .int v1), (4, .int v4)]) hx hb dX9_readOne_92 rfl hl (by decide) rfl (fun ls hl => ?_)
        refine lv_iinc (v := (v4 + (1 : Int32))) (lv' := [(4, .int (v4 + (1 : Int32))), (3, .int (((10 : Int32) * v3) + r88)), (0, .ref (xB X 0)), (1, .int v1)]) hx hb dX9_readOne_93 hl (k := 3) rfl rfl (by decide) rfl (fun ls hl => ?_)
        refine lv_goto (tgt := 73) hx hb dX9_readOne_96 (by decide) ?_
        exact ih73 v1 (((10 : Int32) * v3) + r88) (v4 + (1 : Int32)) mi_88 ma _ _ ls (lv_sub hl [2, 3, 1, 0] rfl) hP hS h
  rw [X9_readOne] at h
  refine lv_aload_n hx hb dX9_readOne_0 rfl (lv_at hl 0 rfl) ?_
  refine lv_iload_n hx hb dX9_readOne_1 rfl (lv_at hl 1 rfl) ?_
  obtain ⟨r2, hc2, h⟩ := Option.bind_eq_some_iff.mp h
  refine rcV (As := [.int a1]) (rest := []) ⟨hx, hb, hml, hown, hts⟩ (c_X9_byteOf l X mi ml ma mb a1 hc2) ⟨w_963, w_965, w_15, w_58, w_966⟩ hd_X9_byteOf rfl rfl ⟨(Nat.le_of_ble_eq_true rfl), (Nat.le_of_ble_eq_true rfl)⟩ ⟨Nat.zero_le _, Nat.zero_le _⟩ mPre_blind (va_recv hK hP (ci := 5) rfl cM_o) (mPre_call hP hK hN) rfl rfl hl.1 (Nat.le_of_ble_eq_true rfl) dX9_readOne_2 ?_
  obtain ⟨r5, hc5, h⟩ := Option.bind_eq_some_iff.mp h
  refine rcS (As := [.int r2]) (rest := []) ⟨hx, hb, hml, hown, hts⟩ (c_X9_kindOf l r2 hc5) ⟨w_971, w_972, w_58, w_973⟩ hd_X9_kindOf rfl rfl ⟨(Nat.le_of_ble_eq_true rfl), (Nat.le_of_ble_eq_true rfl)⟩ ⟨Nat.zero_le _, Nat.zero_le _⟩ (fun _ _ _ _ h => h) (fun _ _ _ => trivial) rfl rfl hl.1 (Nat.le_of_ble_eq_true rfl) dX9_readOne_5 ?_
  refine lv_istore_n (lv' := [(2, .int r5), (0, .ref (xB X 0)), (1, .int a1)]) hx hb dX9_readOne_8 rfl hl (by decide) rfl (fun ls hl => ?_)
  refine lv_iload_n hx hb dX9_readOne_9 rfl (lv_at hl 0 rfl) ?_
  refine lv_if_lt (tgt := 22) hx hb dX9_readOne_10 (by decide) (fun c10 => ?_) (fun c10 => ?_)
  · replace h := if_t c10 h
    refine lv_aload_n hx hb dX9_readOne_22 rfl (lv_at hl 1 rfl) ?_
    refine lv_aload_n hx hb dX9_readOne_23 rfl (lv_at hl 1 rfl) ?_
    refine rg_M_textAt hx hb hT hown hK hP w_811 dX9_readOne_24 ?_
    refine rp_M_faultAt hx hb hT hown hK hP hN hS w_812 dX9_readOne_27 (fun H locs hP hS => ?_)
    generalize emi_27 : va_up mi 6 (mi 5) = mi_27 at hP
    replace h := lt_g h emi_27
    cases h
    exact W.vret hx hb hr (fun t ht _ => ⟨rfl, by rw [ht]; exact hP, hS.F ht⟩) hS.2.2 dX9_readOne_30
  · replace h := if_f c10 h
    refine lv_aload_n hx hb dX9_readOne_13 rfl (lv_at hl 1 rfl) ?_
    refine rg_M_readPeople hx hb hT hown hK hP w_813 dX9_readOne_14 ?_
    refine lv_bipush (v := 7) hx hb dX9_readOne_17 (by decide) ?_
    refine lv_icmp_ne (tgt := 31) hx hb dX9_readOne_19 (by decide) (fun c19 => ?_) (fun c19 => ?_)
    · replace h := if_f c19 h
      refine lv_aload_n hx hb dX9_readOne_31 rfl (lv_at hl 1 rfl) ?_
      refine lv_dup hx hb dX9_readOne_32 rfl ?_
      refine rg_M_textAt hx hb hT hown hK hP w_811 dX9_readOne_33 ?_
      refine lv_iconst (v := 1) hx hb dX9_readOne_36 (by decide) ?_
      refine lv_iadd hx hb dX9_readOne_37 ?_
      refine rp_M_textAt hx hb hT hown hK hP hN hS w_811 dX9_readOne_38 (fun H locs hP hS => ?_)
      generalize emi_38 : va_up mi 5 ((mi 5) + (1 : Int32)) = mi_38 at hP
      replace h := lt_g h emi_38
      refine lv_aload_n hx hb dX9_readOne_41 rfl (lv_at hl 1 rfl) ?_
      refine rg_M_readKind hx hb hT hown hK hP w_814 dX9_readOne_42 ?_
      refine lv_aload_n hx hb dX9_readOne_45 rfl (lv_at hl 1 rfl) ?_
      refine rg_M_readPeople hx hb hT hown hK hP w_813 dX9_readOne_46 ?_
      refine lv_iload_n hx hb dX9_readOne_49 rfl (lv_at hl 0 rfl) ?_
      obtain ⟨hi50, h⟩ := gd_e h
      refine rs_m25 hx hb hK hP hN hS (ib_in hi50) dX9_readOne_50 (fun H locs hP hS => ?_)
      generalize ema_50 : va_up ma 25 (upd (ma 25) (mi_38 7).toNatClampNeg r5) = ma_50 at hP
      replace h := lt_g h ema_50
      refine lv_aload_n hx hb dX9_readOne_51 rfl (lv_at hl 1 rfl) ?_
      refine rg_M_readTaste hx hb hT hown hK hP w_815 dX9_readOne_52 ?_
      refine lv_aload_n hx hb dX9_readOne_55 rfl (lv_at hl 1 rfl) ?_
      refine rg_M_readPeople hx hb hT hown hK hP w_813 dX9_readOne_56 ?_
      refine lv_aload_n hx hb dX9_readOne_59 rfl (lv_at hl 1 rfl) ?_
      refine lv_iload_n hx hb dX9_readOne_60 rfl (lv_at hl 2 rfl) ?_
      refine lv_iconst (v := 1) hx hb dX9_readOne_61 (by decide) ?_
      refine lv_bipush (v := 8) hx hb dX9_readOne_62 (by decide) ?_
      obtain ⟨r64, mi_64, hc64, h⟩ := bd2_e h
      refine wcV (As := [.int a1, .int (1 : Int32), .int (8 : Int32)]) (rest := [.int (mi_38 7), .ref (xB X 27)]) ⟨hx, hb, hml, hown, hts⟩ (c_X9_figure l X mi_38 ml ma_50 mb a1 (1 : Int32) (8 : Int32) hc64) ⟨w_974, w_976, w_17, w_58, w_977⟩ hd_X9_figure rfl rfl ⟨(Nat.le_of_ble_eq_true rfl), (Nat.le_of_ble_eq_true rfl)⟩ ⟨Nat.zero_le _, Nat.zero_le _⟩ mPre_blind (va_recv hK hP (ci := 5) rfl cM_o) (mPre_call hP hK hN) hS (fun _ h => h) rfl rfl hl.1 (Nat.le_of_ble_eq_true rfl) dX9_readOne_64 (fun H locs hP _ hS => ?_)
      have hP : va_P X.1 vwCl (cM X mi_64 ml ma_50 mb) H := hP
      refine W.eq (g2 := F0 m 67 ls [.int r64, .int (mi_38 7), .ref (xB X 27)]) rfl ?_
      obtain ⟨hi67, h⟩ := gd_e h
      refine rs_m26 hx hb hK hP hN hS (ib_in hi67) dX9_readOne_67 (fun H locs hP hS => ?_)
      generalize ema_67 : va_up ma_50 26 (upd (ma_50 26) (mi_38 7).toNatClampNeg r64) = ma_67 at hP
      replace h := lt_g h ema_67
      refine lv_iconst (v := 0) hx hb dX9_readOne_68 (by decide) ?_
      refine lv_istore_n (lv' := [(3, .int (0 : Int32)), (2, .int r5), (0, .ref (xB X 0)), (1, .int a1)]) hx hb dX9_readOne_69 rfl hl (by decide) rfl (fun ls hl => ?_)
      refine lv_iconst (v := 0) hx hb dX9_readOne_70 (by decide) ?_
      refine lv_istore (lv' := [(4, .int (0 : Int32)), (3, .int (0 : Int32)), (2, .int r5), (0, .ref (xB X 0)), (1, .int a1)]) hx hb dX9_readOne_71 hl (by decide) rfl (fun ls hl => ?_)
      exact hL73 500 a1 (0 : Int32) (0 : Int32) mi_64 ma_67 _ _ ls (lv_sub hl [3, 4, 1, 0] rfl) hP hS h
    · replace h := if_t c19 h
      refine lv_aload_n hx hb dX9_readOne_22 rfl (lv_at hl 1 rfl) ?_
      refine lv_aload_n hx hb dX9_readOne_23 rfl (lv_at hl 1 rfl) ?_
      refine rg_M_textAt hx hb hT hown hK hP w_811 dX9_readOne_24 ?_
      refine rp_M_faultAt hx hb hT hown hK hP hN hS w_812 dX9_readOne_27 (fun H locs hP hS => ?_)
      generalize emi_27 : va_up mi 6 (mi 5) = mi_27 at hP
      replace h := lt_g h emi_27
      cases h
      exact W.vret hx hb hr (fun t ht _ => ⟨rfl, by rw [ht]; exact hP, hS.F ht⟩) hS.2.2 dX9_readOne_30
