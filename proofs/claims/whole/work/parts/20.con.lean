set_option maxRecDepth 100000 in
set_option maxHeartbeats 4000000 in
theorem c_J6_bitCount_0f7a4 (l : Launch) (a0 : Int32) {o0 : Int32} (h : J6_bitCount_0f7a4 a0 = some o0) : Met l yJ6_bitCount_0f7a4 (Cond.code yJ6_bitCount_0f7a4 cJ6_bitCount_0f7a4 1 (some .int) :: gT) { frames := 0, cells := 0, slots := 0, locals := 0 } (va_Pc [.int a0] (fun _ => True)) (k2_QcV (.int o0)) 0 0 (fun _ => False) := by
  refine Met.ofW (cc := cJ6_bitCount_0f7a4) (maxL := 1) (ret := (some .int)) (by decide) rfl ?_
  intro p e s m args below meth c s₁ B hml hv
  obtain ⟨rfl, -⟩ := hv
  have hx := B.exec
  have hb := B.bytes
  have hr := B.returns
  have hts := atoms_spec (ws := (Cond.code yJ6_bitCount_0f7a4 cJ6_bitCount_0f7a4 1 (some .int) :: gT)) B.pre
  have hT : ∀ w ∈ gT, w.before _ s = true := fun w hw => hts w (List.mem_cons_of_mem _ hw)
  have hown : s.vm.findClass RJ6 = some m.cls := findClass_of_methodNamed B.named
  have hlocks := B.notSynchronized
  have hl := lv_entry ([.int a0]) (n := 1) (Nat.le_of_ble_eq_true rfl)
  rw [lg_entry_eq]
  generalize (lg_sl ([.int a0]) ++ List.replicate (1 - (lg_sl ([.int a0])).length) Slot.unset).toArray = ls at hl ⊢
  have hl : lv_has ls 1 [(0, .int a0)] := hl
  rw [J6_bitCount_0f7a4] at h
  refine lv_iload_n hx hb dJ6_bitCount_0f7a4_0 rfl (lv_at hl 0 rfl) ?_
  refine lv_iload_n hx hb dJ6_bitCount_0f7a4_1 rfl (lv_at hl 0 rfl) ?_
  refine lv_iconst (v := 1) hx hb dJ6_bitCount_0f7a4_2 (by decide) ?_
  refine lv_iushr hx hb dJ6_bitCount_0f7a4_3 rfl ?_
  refine lv_ldcw (v := 1431655765) hx hb hown (hT _ w_359) dJ6_bitCount_0f7a4_4 ?_
  refine lv_iand hx hb dJ6_bitCount_0f7a4_7 ?_
  refine lv_isub hx hb dJ6_bitCount_0f7a4_8 ?_
  refine lv_topi (fun v0_9 ev0_9 => ?_)
  replace h := lt_e h ev0_9
  refine lv_istore_n (lv' := [(0, .int v0_9)]) hx hb dJ6_bitCount_0f7a4_9 rfl hl (by decide) rfl (fun ls hl => ?_)
  refine lv_iload_n hx hb dJ6_bitCount_0f7a4_10 rfl (lv_at hl 0 rfl) ?_
  refine lv_ldcw (v := 858993459) hx hb hown (hT _ w_360) dJ6_bitCount_0f7a4_11 ?_
  refine lv_iand hx hb dJ6_bitCount_0f7a4_14 ?_
  refine lv_iload_n hx hb dJ6_bitCount_0f7a4_15 rfl (lv_at hl 0 rfl) ?_
  refine lv_iconst (v := 2) hx hb dJ6_bitCount_0f7a4_16 (by decide) ?_
  refine lv_iushr hx hb dJ6_bitCount_0f7a4_17 rfl ?_
  refine lv_ldcw (v := 858993459) hx hb hown (hT _ w_360) dJ6_bitCount_0f7a4_18 ?_
  refine lv_iand hx hb dJ6_bitCount_0f7a4_21 ?_
  refine lv_iadd hx hb dJ6_bitCount_0f7a4_22 ?_
  refine lv_topi (fun v0_23 ev0_23 => ?_)
  replace h := lt_e h ev0_23
  refine lv_istore_n (lv' := [(0, .int v0_23)]) hx hb dJ6_bitCount_0f7a4_23 rfl hl (by decide) rfl (fun ls hl => ?_)
  refine lv_iload_n hx hb dJ6_bitCount_0f7a4_24 rfl (lv_at hl 0 rfl) ?_
  refine lv_iload_n hx hb dJ6_bitCount_0f7a4_25 rfl (lv_at hl 0 rfl) ?_
  refine lv_iconst (v := 4) hx hb dJ6_bitCount_0f7a4_26 (by decide) ?_
  refine lv_iushr hx hb dJ6_bitCount_0f7a4_27 rfl ?_
  refine lv_iadd hx hb dJ6_bitCount_0f7a4_28 ?_
  refine lv_ldcw (v := 252645135) hx hb hown (hT _ w_361) dJ6_bitCount_0f7a4_29 ?_
  refine lv_iand hx hb dJ6_bitCount_0f7a4_32 ?_
  refine lv_topi (fun v0_33 ev0_33 => ?_)
  replace h := lt_e h ev0_33
  refine lv_istore_n (lv' := [(0, .int v0_33)]) hx hb dJ6_bitCount_0f7a4_33 rfl hl (by decide) rfl (fun ls hl => ?_)
  refine lv_iload_n hx hb dJ6_bitCount_0f7a4_34 rfl (lv_at hl 0 rfl) ?_
  refine lv_iload_n hx hb dJ6_bitCount_0f7a4_35 rfl (lv_at hl 0 rfl) ?_
  refine lv_bipush (v := 8) hx hb dJ6_bitCount_0f7a4_36 (by decide) ?_
  refine lv_iushr hx hb dJ6_bitCount_0f7a4_38 rfl ?_
  refine lv_iadd hx hb dJ6_bitCount_0f7a4_39 ?_
  refine lv_topi (fun v0_40 ev0_40 => ?_)
  replace h := lt_e h ev0_40
  refine lv_istore_n (lv' := [(0, .int v0_40)]) hx hb dJ6_bitCount_0f7a4_40 rfl hl (by decide) rfl (fun ls hl => ?_)
  refine lv_iload_n hx hb dJ6_bitCount_0f7a4_41 rfl (lv_at hl 0 rfl) ?_
  refine lv_iload_n hx hb dJ6_bitCount_0f7a4_42 rfl (lv_at hl 0 rfl) ?_
  refine lv_bipush (v := 16) hx hb dJ6_bitCount_0f7a4_43 (by decide) ?_
  refine lv_iushr hx hb dJ6_bitCount_0f7a4_45 rfl ?_
  refine lv_iadd hx hb dJ6_bitCount_0f7a4_46 ?_
  refine lv_topi (fun v0_47 ev0_47 => ?_)
  replace h := lt_e h ev0_47
  refine lv_istore_n (lv' := [(0, .int v0_47)]) hx hb dJ6_bitCount_0f7a4_47 rfl hl (by decide) rfl (fun ls hl => ?_)
  refine lv_iload_n hx hb dJ6_bitCount_0f7a4_48 rfl (lv_at hl 0 rfl) ?_
  refine lv_bipush (v := 63) hx hb dJ6_bitCount_0f7a4_49 (by decide) ?_
  refine lv_iand hx hb dJ6_bitCount_0f7a4_51 ?_
  cases h
  exact W.iret hx hb hr (fun t ht _ => ⟨rfl, ht⟩) (fun _ hq => by cases hq) dJ6_bitCount_0f7a4_52
set_option maxRecDepth 100000 in
set_option maxHeartbeats 4000000 in
theorem c_J7_fill_53178_s (l : Launch) (X : gX) (gi : Nat → Int32) (gl : Nat → Int64) (ga : Nat → Nat → Int32) (vS : Nat → Nat → Int32) (vF : Nat → Nat → Nat → Int32) (sN : Nat → Int32) (sF : Nat → Nat → Int32) (j : Nat) (hj : j < 10) (a1 : Int32) {o_sF : Nat → Nat → Int32} (h : J7_fill_53178_s j a1 sF = some o_sF) : Met l yJ7_fill_53178 (Cond.code yJ7_fill_53178 cJ7_fill_53178 4 none :: gT) { frames := 0, cells := 0, slots := 0, locals := 0 } (va_Pc [.ref (xAS X j 1), .int a1] (gPre X gi gl ga vS vF sN sF)) (wQ none (fun H => va_P X.1 vwCl (cG X gi gl ga vS vF sN o_sF) H) (gA X)) 0 0 (gA X) := by
  refine Met.ofW (cc := cJ7_fill_53178) (maxL := 4) (ret := none) (by decide) rfl ?_
  intro p e s m args below meth c s₁ B hml hv
  obtain ⟨rfl, hP, hK, hN, hZ⟩ := hv
  have hx := B.exec
  have hb := B.bytes
  have hr := B.returns
  have hts := atoms_spec (ws := (Cond.code yJ7_fill_53178 cJ7_fill_53178 4 none :: gT)) B.pre
  have hT : ∀ w ∈ gT, w.before _ s = true := fun w hw => hts w (List.mem_cons_of_mem _ hw)
  have hown : s.vm.findClass RJ7 = some m.cls := findClass_of_methodNamed B.named
  have hlocks := B.notSynchronized
  have hS : va_S (gA X) s.heap s.heap [] := va_S.rf
  have hl := lv_entry ([.ref (xAS X j 1), .int a1]) (n := 4) (Nat.le_of_ble_eq_true rfl)
  rw [lg_entry_eq]
  generalize (lg_sl ([.ref (xAS X j 1), .int a1]) ++ List.replicate (4 - (lg_sl ([.ref (xAS X j 1), .int a1])).length) Slot.unset).toArray = ls at hl ⊢
  have hl : lv_has ls 4 [(0, .ref (xAS X j 1)), (1, .int a1)] := hl
  have hL5 : ∀ (n5 : Nat) (v1 : Int32) (v2 : Int32) (v3 : Int32) (sF : Nat → Nat → Int32) (H : Heap) (locs : List Loc) (ls : Array Slot), lv_has ls 4 [(0, .ref (xAS X j 1)), (1, .int v1), (2, .int v2), (3, .int v3)] → va_P X.1 vwCl (cG X gi gl ga vS vF sN sF) H → va_S (gA X) s.heap H locs → J7_fill_53178_s_5 j n5 v1 v2 v3 sF = some o_sF → W p l e (headSpec (Cond.code yJ7_fill_53178 cJ7_fill_53178 4 none :: gT) { frames := 0, cells := 0, slots := 0, locals := 0 }).room s m [.ref (xAS X j 1), .int a1].toArray below meth c H locs 0 0 (MQ below (wQ none (fun H => va_P X.1 vwCl (cG X gi gl ga vS vF sN o_sF) H) (gA X)) [.ref (xAS X j 1), .int a1].toArray s 0 0 (gA X)) (F0 m 5 ls []) := by
    intro n5
    induction n5 with
    | zero =>
      intro v1 v2 v3 sF H locs ls hl hP hS h
      rw [J7_fill_53178_s_5] at h
      cases h
    | succ n5 ih5 =>
      intro v1 v2 v3 sF H locs ls hl hP hS h
      rw [J7_fill_53178_s_5] at h
      refine lv_iload_n hx hb dJ7_fill_53178_5 rfl (lv_at hl 2 rfl) ?_
      refine lv_iload_n hx hb dJ7_fill_53178_6 rfl (lv_at hl 3 rfl) ?_
      refine lv_icmp_ge (tgt := 20) hx hb dJ7_fill_53178_7 (by decide) (fun c7 => ?_) (fun c7 => ?_)
      · replace h := if_t c7 h
        cases h
        exact W.vret hx hb hr (fun t ht _ => ⟨rfl, by rw [ht]; exact hP, hS.F ht⟩) hS.2.2 dJ7_fill_53178_20
      · replace h := if_f c7 h
        refine lv_aload_n hx hb dJ7_fill_53178_10 rfl (lv_at hl 0 rfl) ?_
        refine lv_iload_n hx hb dJ7_fill_53178_11 rfl (lv_at hl 2 rfl) ?_
        refine lv_iload_n hx hb dJ7_fill_53178_12 rfl (lv_at hl 1 rfl) ?_
        obtain ⟨hi13, h⟩ := gd_e h
        refine rs_s (j := j) hx hb hK hP hN hS hj (ib_in hi13) dJ7_fill_53178_13 (fun H locs hP hS => ?_)
        generalize esF_13 : va_up sF j (upd (sF j) v2.toNatClampNeg v1) = sF_13 at hP
        replace h := lt_g h esF_13
        refine lv_iinc (v := (v2 + (1 : Int32))) (lv' := [(2, .int (v2 + (1 : Int32))), (0, .ref (xAS X j 1)), (1, .int v1), (3, .int v3)]) hx hb dJ7_fill_53178_14 hl (k := 2) rfl rfl (by decide) rfl (fun ls hl => ?_)
        refine lv_goto (tgt := 5) hx hb dJ7_fill_53178_17 (by decide) ?_
        exact ih5 v1 (v2 + (1 : Int32)) v3 sF_13 _ _ ls (lv_sub hl [1, 2, 0, 3] rfl) hP hS h
  rw [J7_fill_53178_s] at h
  refine lv_iconst (v := 0) hx hb dJ7_fill_53178_0 (by decide) ?_
  refine lv_istore_n (lv' := [(2, .int (0 : Int32)), (0, .ref (xAS X j 1)), (1, .int a1)]) hx hb dJ7_fill_53178_1 rfl hl (by decide) rfl (fun ls hl => ?_)
  refine lv_aload_n hx hb dJ7_fill_53178_2 rfl (lv_at hl 1 rfl) ?_
  refine rl_s (j := j) hx hb hK hP hj dJ7_fill_53178_3 ?_
  refine lv_istore_n (lv' := [(3, .int (Int32.ofNat (sL j))), (2, .int (0 : Int32)), (0, .ref (xAS X j 1)), (1, .int a1)]) hx hb dJ7_fill_53178_4 rfl hl (by decide) rfl (fun ls hl => ?_)
  exact hL5 500 a1 (0 : Int32) (Int32.ofNat (sL j)) sF _ _ ls (lv_sub hl [2, 3, 1, 0] rfl) hP hS h
set_option maxRecDepth 100000 in
set_option maxHeartbeats 4000000 in
theorem c_J7_fill_53178_v4 (l : Launch) (X : gX) (gi : Nat → Int32) (gl : Nat → Int64) (ga : Nat → Nat → Int32) (vS : Nat → Nat → Int32) (vF : Nat → Nat → Nat → Int32) (sN : Nat → Int32) (sF : Nat → Nat → Int32) (a1 : Int32) {o_vF : Nat → Nat → Nat → Int32} (h : J7_fill_53178_v4 a1 vF = some o_vF) : Met l yJ7_fill_53178 (Cond.code yJ7_fill_53178 cJ7_fill_53178 4 none :: gT) { frames := 0, cells := 0, slots := 0, locals := 0 } (va_Pc [.ref (xAV X (0) 5), .int a1] (gPre X gi gl ga vS vF sN sF)) (wQ none (fun H => va_P X.1 vwCl (cG X gi gl ga vS o_vF sN sF) H) (gA X)) 0 0 (gA X) := by
  refine Met.ofW (cc := cJ7_fill_53178) (maxL := 4) (ret := none) (by decide) rfl ?_
  intro p e s m args below meth c s₁ B hml hv
  obtain ⟨rfl, hP, hK, hN, hZ⟩ := hv
  have hx := B.exec
  have hb := B.bytes
  have hr := B.returns
  have hts := atoms_spec (ws := (Cond.code yJ7_fill_53178 cJ7_fill_53178 4 none :: gT)) B.pre
  have hT : ∀ w ∈ gT, w.before _ s = true := fun w hw => hts w (List.mem_cons_of_mem _ hw)
  have hown : s.vm.findClass RJ7 = some m.cls := findClass_of_methodNamed B.named
  have hlocks := B.notSynchronized
  have hS : va_S (gA X) s.heap s.heap [] := va_S.rf
  have hl := lv_entry ([.ref (xAV X (0) 5), .int a1]) (n := 4) (Nat.le_of_ble_eq_true rfl)
  rw [lg_entry_eq]
  generalize (lg_sl ([.ref (xAV X (0) 5), .int a1]) ++ List.replicate (4 - (lg_sl ([.ref (xAV X (0) 5), .int a1])).length) Slot.unset).toArray = ls at hl ⊢
  have hl : lv_has ls 4 [(0, .ref (xAV X (0) 5)), (1, .int a1)] := hl
  have hL5 : ∀ (n5 : Nat) (v1 : Int32) (v2 : Int32) (v3 : Int32) (vF : Nat → Nat → Nat → Int32) (H : Heap) (locs : List Loc) (ls : Array Slot), lv_has ls 4 [(0, .ref (xAV X (0) 5)), (1, .int v1), (2, .int v2), (3, .int v3)] → va_P X.1 vwCl (cG X gi gl ga vS vF sN sF) H → va_S (gA X) s.heap H locs → J7_fill_53178_v4_5 n5 v1 v2 v3 vF = some o_vF → W p l e (headSpec (Cond.code yJ7_fill_53178 cJ7_fill_53178 4 none :: gT) { frames := 0, cells := 0, slots := 0, locals := 0 }).room s m [.ref (xAV X (0) 5), .int a1].toArray below meth c H locs 0 0 (MQ below (wQ none (fun H => va_P X.1 vwCl (cG X gi gl ga vS o_vF sN sF) H) (gA X)) [.ref (xAV X (0) 5), .int a1].toArray s 0 0 (gA X)) (F0 m 5 ls []) := by
    intro n5
    induction n5 with
    | zero =>
      intro v1 v2 v3 vF H locs ls hl hP hS h
      rw [J7_fill_53178_v4_5] at h
      cases h
    | succ n5 ih5 =>
      intro v1 v2 v3 vF H locs ls hl hP hS h
      rw [J7_fill_53178_v4_5] at h
      refine lv_iload_n hx hb dJ7_fill_53178_5 rfl (lv_at hl 2 rfl) ?_
      refine lv_iload_n hx hb dJ7_fill_53178_6 rfl (lv_at hl 3 rfl) ?_
      refine lv_icmp_ge (tgt := 20) hx hb dJ7_fill_53178_7 (by decide) (fun c7 => ?_) (fun c7 => ?_)
      · replace h := if_t c7 h
        cases h
        exact W.vret hx hb hr (fun t ht _ => ⟨rfl, by rw [ht]; exact hP, hS.F ht⟩) hS.2.2 dJ7_fill_53178_20
      · replace h := if_f c7 h
        refine lv_aload_n hx hb dJ7_fill_53178_10 rfl (lv_at hl 0 rfl) ?_
        refine lv_iload_n hx hb dJ7_fill_53178_11 rfl (lv_at hl 2 rfl) ?_
        refine lv_iload_n hx hb dJ7_fill_53178_12 rfl (lv_at hl 1 rfl) ?_
        obtain ⟨hi13, h⟩ := gd_e h
        refine rs_v4 (q := (0)) hx hb hK hP hN hS (by decide : 0 < 4) (ib_in hi13) dJ7_fill_53178_13 (fun H locs hP hS => ?_)
        generalize evF_13 : u2 vF (0) 4 (upd (vF (0) 4) v2.toNatClampNeg v1) = vF_13 at hP
        replace h := lt_g h evF_13
        refine lv_iinc (v := (v2 + (1 : Int32))) (lv' := [(2, .int (v2 + (1 : Int32))), (0, .ref (xAV X (0) 5)), (1, .int v1), (3, .int v3)]) hx hb dJ7_fill_53178_14 hl (k := 2) rfl rfl (by decide) rfl (fun ls hl => ?_)
        refine lv_goto (tgt := 5) hx hb dJ7_fill_53178_17 (by decide) ?_
        exact ih5 v1 (v2 + (1 : Int32)) v3 vF_13 _ _ ls (lv_sub hl [1, 2, 0, 3] rfl) hP hS h
  rw [J7_fill_53178_v4] at h
  refine lv_iconst (v := 0) hx hb dJ7_fill_53178_0 (by decide) ?_
  refine lv_istore_n (lv' := [(2, .int (0 : Int32)), (0, .ref (xAV X (0) 5)), (1, .int a1)]) hx hb dJ7_fill_53178_1 rfl hl (by decide) rfl (fun ls hl => ?_)
  refine lv_aload_n hx hb dJ7_fill_53178_2 rfl (lv_at hl 1 rfl) ?_
  refine rl_v4 (q := (0)) hx hb hK hP (by decide : 0 < 4) dJ7_fill_53178_3 ?_
  refine lv_istore_n (lv' := [(3, .int (Int32.ofNat (7))), (2, .int (0 : Int32)), (0, .ref (xAV X (0) 5)), (1, .int a1)]) hx hb dJ7_fill_53178_4 rfl hl (by decide) rfl (fun ls hl => ?_)
  exact hL5 500 a1 (0 : Int32) (Int32.ofNat (7)) vF _ _ ls (lv_sub hl [2, 3, 1, 0] rfl) hP hS h
set_option maxRecDepth 100000 in
set_option maxHeartbeats 4000000 in
theorem c_J7_fill_53178_v5 (l : Launch) (X : gX) (gi : Nat → Int32) (gl : Nat → Int64) (ga : Nat → Nat → Int32) (vS : Nat → Nat → Int32) (vF : Nat → Nat → Nat → Int32) (sN : Nat → Int32) (sF : Nat → Nat → Int32) (a1 : Int32) {o_vF : Nat → Nat → Nat → Int32} (h : J7_fill_53178_v5 a1 vF = some o_vF) : Met l yJ7_fill_53178 (Cond.code yJ7_fill_53178 cJ7_fill_53178 4 none :: gT) { frames := 0, cells := 0, slots := 0, locals := 0 } (va_Pc [.ref (xAV X (0) 6), .int a1] (gPre X gi gl ga vS vF sN sF)) (wQ none (fun H => va_P X.1 vwCl (cG X gi gl ga vS o_vF sN sF) H) (gA X)) 0 0 (gA X) := by
  refine Met.ofW (cc := cJ7_fill_53178) (maxL := 4) (ret := none) (by decide) rfl ?_
  intro p e s m args below meth c s₁ B hml hv
  obtain ⟨rfl, hP, hK, hN, hZ⟩ := hv
  have hx := B.exec
  have hb := B.bytes
  have hr := B.returns
  have hts := atoms_spec (ws := (Cond.code yJ7_fill_53178 cJ7_fill_53178 4 none :: gT)) B.pre
  have hT : ∀ w ∈ gT, w.before _ s = true := fun w hw => hts w (List.mem_cons_of_mem _ hw)
  have hown : s.vm.findClass RJ7 = some m.cls := findClass_of_methodNamed B.named
  have hlocks := B.notSynchronized
  have hS : va_S (gA X) s.heap s.heap [] := va_S.rf
  have hl := lv_entry ([.ref (xAV X (0) 6), .int a1]) (n := 4) (Nat.le_of_ble_eq_true rfl)
  rw [lg_entry_eq]
  generalize (lg_sl ([.ref (xAV X (0) 6), .int a1]) ++ List.replicate (4 - (lg_sl ([.ref (xAV X (0) 6), .int a1])).length) Slot.unset).toArray = ls at hl ⊢
  have hl : lv_has ls 4 [(0, .ref (xAV X (0) 6)), (1, .int a1)] := hl
  have hL5 : ∀ (n5 : Nat) (v1 : Int32) (v2 : Int32) (v3 : Int32) (vF : Nat → Nat → Nat → Int32) (H : Heap) (locs : List Loc) (ls : Array Slot), lv_has ls 4 [(0, .ref (xAV X (0) 6)), (1, .int v1), (2, .int v2), (3, .int v3)] → va_P X.1 vwCl (cG X gi gl ga vS vF sN sF) H → va_S (gA X) s.heap H locs → J7_fill_53178_v5_5 n5 v1 v2 v3 vF = some o_vF → W p l e (headSpec (Cond.code yJ7_fill_53178 cJ7_fill_53178 4 none :: gT) { frames := 0, cells := 0, slots := 0, locals := 0 }).room s m [.ref (xAV X (0) 6), .int a1].toArray below meth c H locs 0 0 (MQ below (wQ none (fun H => va_P X.1 vwCl (cG X gi gl ga vS o_vF sN sF) H) (gA X)) [.ref (xAV X (0) 6), .int a1].toArray s 0 0 (gA X)) (F0 m 5 ls []) := by
    intro n5
    induction n5 with
    | zero =>
      intro v1 v2 v3 vF H locs ls hl hP hS h
      rw [J7_fill_53178_v5_5] at h
      cases h
    | succ n5 ih5 =>
      intro v1 v2 v3 vF H locs ls hl hP hS h
      rw [J7_fill_53178_v5_5] at h
      refine lv_iload_n hx hb dJ7_fill_53178_5 rfl (lv_at hl 2 rfl) ?_
      refine lv_iload_n hx hb dJ7_fill_53178_6 rfl (lv_at hl 3 rfl) ?_
      refine lv_icmp_ge (tgt := 20) hx hb dJ7_fill_53178_7 (by decide) (fun c7 => ?_) (fun c7 => ?_)
      · replace h := if_t c7 h
        cases h
        exact W.vret hx hb hr (fun t ht _ => ⟨rfl, by rw [ht]; exact hP, hS.F ht⟩) hS.2.2 dJ7_fill_53178_20
      · replace h := if_f c7 h
        refine lv_aload_n hx hb dJ7_fill_53178_10 rfl (lv_at hl 0 rfl) ?_
        refine lv_iload_n hx hb dJ7_fill_53178_11 rfl (lv_at hl 2 rfl) ?_
        refine lv_iload_n hx hb dJ7_fill_53178_12 rfl (lv_at hl 1 rfl) ?_
        obtain ⟨hi13, h⟩ := gd_e h
        refine rs_v5 (q := (0)) hx hb hK hP hN hS (by decide : 0 < 4) (ib_in hi13) dJ7_fill_53178_13 (fun H locs hP hS => ?_)
        generalize evF_13 : u2 vF (0) 5 (upd (vF (0) 5) v2.toNatClampNeg v1) = vF_13 at hP
        replace h := lt_g h evF_13
        refine lv_iinc (v := (v2 + (1 : Int32))) (lv' := [(2, .int (v2 + (1 : Int32))), (0, .ref (xAV X (0) 6)), (1, .int v1), (3, .int v3)]) hx hb dJ7_fill_53178_14 hl (k := 2) rfl rfl (by decide) rfl (fun ls hl => ?_)
        refine lv_goto (tgt := 5) hx hb dJ7_fill_53178_17 (by decide) ?_
        exact ih5 v1 (v2 + (1 : Int32)) v3 vF_13 _ _ ls (lv_sub hl [1, 2, 0, 3] rfl) hP hS h
  rw [J7_fill_53178_v5] at h
  refine lv_iconst (v := 0) hx hb dJ7_fill_53178_0 (by decide) ?_
  refine lv_istore_n (lv' := [(2, .int (0 : Int32)), (0, .ref (xAV X (0) 6)), (1, .int a1)]) hx hb dJ7_fill_53178_1 rfl hl (by decide) rfl (fun ls hl => ?_)
  refine lv_aload_n hx hb dJ7_fill_53178_2 rfl (lv_at hl 1 rfl) ?_
  refine rl_v5 (q := (0)) hx hb hK hP (by decide : 0 < 4) dJ7_fill_53178_3 ?_
  refine lv_istore_n (lv' := [(3, .int (Int32.ofNat (7))), (2, .int (0 : Int32)), (0, .ref (xAV X (0) 6)), (1, .int a1)]) hx hb dJ7_fill_53178_4 rfl hl (by decide) rfl (fun ls hl => ?_)
  exact hL5 500 a1 (0 : Int32) (Int32.ofNat (7)) vF _ _ ls (lv_sub hl [2, 3, 1, 0] rfl) hP hS h
set_option maxRecDepth 100000 in
set_option maxHeartbeats 4000000 in
theorem c_J7_fill_53178_g2 (l : Launch) (X : gX) (gi : Nat → Int32) (gl : Nat → Int64) (ga : Nat → Nat → Int32) (vS : Nat → Nat → Int32) (vF : Nat → Nat → Nat → Int32) (sN : Nat → Int32) (sF : Nat → Nat → Int32) (a1 : Int32) {o_ga : Nat → Nat → Int32} (h : J7_fill_53178_g2 a1 ga = some o_ga) : Met l yJ7_fill_53178 (Cond.code yJ7_fill_53178 cJ7_fill_53178 4 none :: gT) { frames := 0, cells := 0, slots := 0, locals := 0 } (va_Pc [.ref (xA X 8), .int a1] (gPre X gi gl ga vS vF sN sF)) (wQ none (fun H => va_P X.1 vwCl (cG X gi gl o_ga vS vF sN sF) H) (gA X)) 0 0 (gA X) := by
  refine Met.ofW (cc := cJ7_fill_53178) (maxL := 4) (ret := none) (by decide) rfl ?_
  intro p e s m args below meth c s₁ B hml hv
  obtain ⟨rfl, hP, hK, hN, hZ⟩ := hv
  have hx := B.exec
  have hb := B.bytes
  have hr := B.returns
  have hts := atoms_spec (ws := (Cond.code yJ7_fill_53178 cJ7_fill_53178 4 none :: gT)) B.pre
  have hT : ∀ w ∈ gT, w.before _ s = true := fun w hw => hts w (List.mem_cons_of_mem _ hw)
  have hown : s.vm.findClass RJ7 = some m.cls := findClass_of_methodNamed B.named
  have hlocks := B.notSynchronized
  have hS : va_S (gA X) s.heap s.heap [] := va_S.rf
  have hl := lv_entry ([.ref (xA X 8), .int a1]) (n := 4) (Nat.le_of_ble_eq_true rfl)
  rw [lg_entry_eq]
  generalize (lg_sl ([.ref (xA X 8), .int a1]) ++ List.replicate (4 - (lg_sl ([.ref (xA X 8), .int a1])).length) Slot.unset).toArray = ls at hl ⊢
  have hl : lv_has ls 4 [(0, .ref (xA X 8)), (1, .int a1)] := hl
  have hL5 : ∀ (n5 : Nat) (v1 : Int32) (v2 : Int32) (v3 : Int32) (ga : Nat → Nat → Int32) (H : Heap) (locs : List Loc) (ls : Array Slot), lv_has ls 4 [(0, .ref (xA X 8)), (1, .int v1), (2, .int v2), (3, .int v3)] → va_P X.1 vwCl (cG X gi gl ga vS vF sN sF) H → va_S (gA X) s.heap H locs → J7_fill_53178_g2_5 n5 v1 v2 v3 ga = some o_ga → W p l e (headSpec (Cond.code yJ7_fill_53178 cJ7_fill_53178 4 none :: gT) { frames := 0, cells := 0, slots := 0, locals := 0 }).room s m [.ref (xA X 8), .int a1].toArray below meth c H locs 0 0 (MQ below (wQ none (fun H => va_P X.1 vwCl (cG X gi gl o_ga vS vF sN sF) H) (gA X)) [.ref (xA X 8), .int a1].toArray s 0 0 (gA X)) (F0 m 5 ls []) := by
    intro n5
    induction n5 with
    | zero =>
      intro v1 v2 v3 ga H locs ls hl hP hS h
      rw [J7_fill_53178_g2_5] at h
      cases h
    | succ n5 ih5 =>
      intro v1 v2 v3 ga H locs ls hl hP hS h
      rw [J7_fill_53178_g2_5] at h
      refine lv_iload_n hx hb dJ7_fill_53178_5 rfl (lv_at hl 2 rfl) ?_
      refine lv_iload_n hx hb dJ7_fill_53178_6 rfl (lv_at hl 3 rfl) ?_
      refine lv_icmp_ge (tgt := 20) hx hb dJ7_fill_53178_7 (by decide) (fun c7 => ?_) (fun c7 => ?_)
      · replace h := if_t c7 h
        cases h
        exact W.vret hx hb hr (fun t ht _ => ⟨rfl, by rw [ht]; exact hP, hS.F ht⟩) hS.2.2 dJ7_fill_53178_20
      · replace h := if_f c7 h
        refine lv_aload_n hx hb dJ7_fill_53178_10 rfl (lv_at hl 0 rfl) ?_
        refine lv_iload_n hx hb dJ7_fill_53178_11 rfl (lv_at hl 2 rfl) ?_
        refine lv_iload_n hx hb dJ7_fill_53178_12 rfl (lv_at hl 1 rfl) ?_
        obtain ⟨hi13, h⟩ := gd_e h
        refine rs_g2 hx hb hK hP hN hS (ib_in hi13) dJ7_fill_53178_13 (fun H locs hP hS => ?_)
        generalize ega_13 : va_up ga 2 (upd (ga 2) v2.toNatClampNeg v1) = ga_13 at hP
        replace h := lt_g h ega_13
        refine lv_iinc (v := (v2 + (1 : Int32))) (lv' := [(2, .int (v2 + (1 : Int32))), (0, .ref (xA X 8)), (1, .int v1), (3, .int v3)]) hx hb dJ7_fill_53178_14 hl (k := 2) rfl rfl (by decide) rfl (fun ls hl => ?_)
        refine lv_goto (tgt := 5) hx hb dJ7_fill_53178_17 (by decide) ?_
        exact ih5 v1 (v2 + (1 : Int32)) v3 ga_13 _ _ ls (lv_sub hl [1, 2, 0, 3] rfl) hP hS h
  rw [J7_fill_53178_g2] at h
  refine lv_iconst (v := 0) hx hb dJ7_fill_53178_0 (by decide) ?_
  refine lv_istore_n (lv' := [(2, .int (0 : Int32)), (0, .ref (xA X 8)), (1, .int a1)]) hx hb dJ7_fill_53178_1 rfl hl (by decide) rfl (fun ls hl => ?_)
  refine lv_aload_n hx hb dJ7_fill_53178_2 rfl (lv_at hl 1 rfl) ?_
  refine rl_g2 hx hb hK hP dJ7_fill_53178_3 ?_
  refine lv_istore_n (lv' := [(3, .int (Int32.ofNat (128))), (2, .int (0 : Int32)), (0, .ref (xA X 8)), (1, .int a1)]) hx hb dJ7_fill_53178_4 rfl hl (by decide) rfl (fun ls hl => ?_)
  exact hL5 500 a1 (0 : Int32) (Int32.ofNat (128)) ga _ _ ls (lv_sub hl [2, 3, 1, 0] rfl) hP hS h
set_option maxRecDepth 100000 in
set_option maxHeartbeats 4000000 in
theorem c_J7_fill_53178_g3 (l : Launch) (X : gX) (gi : Nat → Int32) (gl : Nat → Int64) (ga : Nat → Nat → Int32) (vS : Nat → Nat → Int32) (vF : Nat → Nat → Nat → Int32) (sN : Nat → Int32) (sF : Nat → Nat → Int32) (a1 : Int32) {o_ga : Nat → Nat → Int32} (h : J7_fill_53178_g3 a1 ga = some o_ga) : Met l yJ7_fill_53178 (Cond.code yJ7_fill_53178 cJ7_fill_53178 4 none :: gT) { frames := 0, cells := 0, slots := 0, locals := 0 } (va_Pc [.ref (xA X 9), .int a1] (gPre X gi gl ga vS vF sN sF)) (wQ none (fun H => va_P X.1 vwCl (cG X gi gl o_ga vS vF sN sF) H) (gA X)) 0 0 (gA X) := by
  refine Met.ofW (cc := cJ7_fill_53178) (maxL := 4) (ret := none) (by decide) rfl ?_
  intro p e s m args below meth c s₁ B hml hv
  obtain ⟨rfl, hP, hK, hN, hZ⟩ := hv
  have hx := B.exec
  have hb := B.bytes
  have hr := B.returns
  have hts := atoms_spec (ws := (Cond.code yJ7_fill_53178 cJ7_fill_53178 4 none :: gT)) B.pre
  have hT : ∀ w ∈ gT, w.before _ s = true := fun w hw => hts w (List.mem_cons_of_mem _ hw)
  have hown : s.vm.findClass RJ7 = some m.cls := findClass_of_methodNamed B.named
  have hlocks := B.notSynchronized
  have hS : va_S (gA X) s.heap s.heap [] := va_S.rf
  have hl := lv_entry ([.ref (xA X 9), .int a1]) (n := 4) (Nat.le_of_ble_eq_true rfl)
  rw [lg_entry_eq]
  generalize (lg_sl ([.ref (xA X 9), .int a1]) ++ List.replicate (4 - (lg_sl ([.ref (xA X 9), .int a1])).length) Slot.unset).toArray = ls at hl ⊢
  have hl : lv_has ls 4 [(0, .ref (xA X 9)), (1, .int a1)] := hl
  have hL5 : ∀ (n5 : Nat) (v1 : Int32) (v2 : Int32) (v3 : Int32) (ga : Nat → Nat → Int32) (H : Heap) (locs : List Loc) (ls : Array Slot), lv_has ls 4 [(0, .ref (xA X 9)), (1, .int v1), (2, .int v2), (3, .int v3)] → va_P X.1 vwCl (cG X gi gl ga vS vF sN sF) H → va_S (gA X) s.heap H locs → J7_fill_53178_g3_5 n5 v1 v2 v3 ga = some o_ga → W p l e (headSpec (Cond.code yJ7_fill_53178 cJ7_fill_53178 4 none :: gT) { frames := 0, cells := 0, slots := 0, locals := 0 }).room s m [.ref (xA X 9), .int a1].toArray below meth c H locs 0 0 (MQ below (wQ none (fun H => va_P X.1 vwCl (cG X gi gl o_ga vS vF sN sF) H) (gA X)) [.ref (xA X 9), .int a1].toArray s 0 0 (gA X)) (F0 m 5 ls []) := by
    intro n5
    induction n5 with
    | zero =>
      intro v1 v2 v3 ga H locs ls hl hP hS h
      rw [J7_fill_53178_g3_5] at h
      cases h
    | succ n5 ih5 =>
      intro v1 v2 v3 ga H locs ls hl hP hS h
      rw [J7_fill_53178_g3_5] at h
      refine lv_iload_n hx hb dJ7_fill_53178_5 rfl (lv_at hl 2 rfl) ?_
      refine lv_iload_n hx hb dJ7_fill_53178_6 rfl (lv_at hl 3 rfl) ?_
      refine lv_icmp_ge (tgt := 20) hx hb dJ7_fill_53178_7 (by decide) (fun c7 => ?_) (fun c7 => ?_)
      · replace h := if_t c7 h
        cases h
        exact W.vret hx hb hr (fun t ht _ => ⟨rfl, by rw [ht]; exact hP, hS.F ht⟩) hS.2.2 dJ7_fill_53178_20
      · replace h := if_f c7 h
        refine lv_aload_n hx hb dJ7_fill_53178_10 rfl (lv_at hl 0 rfl) ?_
        refine lv_iload_n hx hb dJ7_fill_53178_11 rfl (lv_at hl 2 rfl) ?_
        refine lv_iload_n hx hb dJ7_fill_53178_12 rfl (lv_at hl 1 rfl) ?_
        obtain ⟨hi13, h⟩ := gd_e h
        refine rs_g3 hx hb hK hP hN hS (ib_in hi13) dJ7_fill_53178_13 (fun H locs hP hS => ?_)
        generalize ega_13 : va_up ga 3 (upd (ga 3) v2.toNatClampNeg v1) = ga_13 at hP
        replace h := lt_g h ega_13
        refine lv_iinc (v := (v2 + (1 : Int32))) (lv' := [(2, .int (v2 + (1 : Int32))), (0, .ref (xA X 9)), (1, .int v1), (3, .int v3)]) hx hb dJ7_fill_53178_14 hl (k := 2) rfl rfl (by decide) rfl (fun ls hl => ?_)
        refine lv_goto (tgt := 5) hx hb dJ7_fill_53178_17 (by decide) ?_
        exact ih5 v1 (v2 + (1 : Int32)) v3 ga_13 _ _ ls (lv_sub hl [1, 2, 0, 3] rfl) hP hS h
  rw [J7_fill_53178_g3] at h
  refine lv_iconst (v := 0) hx hb dJ7_fill_53178_0 (by decide) ?_
  refine lv_istore_n (lv' := [(2, .int (0 : Int32)), (0, .ref (xA X 9)), (1, .int a1)]) hx hb dJ7_fill_53178_1 rfl hl (by decide) rfl (fun ls hl => ?_)
  refine lv_aload_n hx hb dJ7_fill_53178_2 rfl (lv_at hl 1 rfl) ?_
  refine rl_g3 hx hb hK hP dJ7_fill_53178_3 ?_
  refine lv_istore_n (lv' := [(3, .int (Int32.ofNat (128))), (2, .int (0 : Int32)), (0, .ref (xA X 9)), (1, .int a1)]) hx hb dJ7_fill_53178_4 rfl hl (by decide) rfl (fun ls hl => ?_)
  exact hL5 500 a1 (0 : Int32) (Int32.ofNat (128)) ga _ _ ls (lv_sub hl [2, 3, 1, 0] rfl) hP hS h
set_option maxRecDepth 100000 in
set_option maxHeartbeats 4000000 in
theorem c_X2_ofLetter (l : Launch) (X : gX) (gi : Nat → Int32) (gl : Nat → Int64) (ga : Nat → Nat → Int32) (vS : Nat → Nat → Int32) (vF : Nat → Nat → Nat → Int32) (sN : Nat → Int32) (sF : Nat → Nat → Int32) (a0 : Int32) {o0 : Int32} (h : X2_ofLetter a0 = some o0) : Met l yX2_ofLetter (Cond.code yX2_ofLetter cX2_ofLetter 2 (some .int) :: gT) { frames := 0, cells := 0, slots := 0, locals := 0 } (va_Pc [.int a0] (gPre X gi gl ga vS vF sN sF)) (k2_QcV (.int o0)) 0 0 (fun _ => False) := by
  refine Met.ofW (cc := cX2_ofLetter) (maxL := 2) (ret := (some .int)) (by decide) rfl ?_
  intro p e s m args below meth c s₁ B hml hv
  obtain ⟨rfl, hP, hK, hN, hZ⟩ := hv
  have hx := B.exec
  have hb := B.bytes
  have hr := B.returns
  have hts := atoms_spec (ws := (Cond.code yX2_ofLetter cX2_ofLetter 2 (some .int) :: gT)) B.pre
  have hT : ∀ w ∈ gT, w.before _ s = true := fun w hw => hts w (List.mem_cons_of_mem _ hw)
  have hown : s.vm.findClass RX2 = some m.cls := findClass_of_methodNamed B.named
  have hlocks := B.notSynchronized
  have hS : va_S (gA X) s.heap s.heap [] := va_S.rf
  obtain ⟨t1, t2, z1, T1, z2, T2⟩ := id hZ
  have hl := lv_entry ([.int a0]) (n := 2) (Nat.le_of_ble_eq_true rfl)
  rw [lg_entry_eq]
  generalize (lg_sl ([.int a0]) ++ List.replicate (2 - (lg_sl ([.int a0])).length) Slot.unset).toArray = ls at hl ⊢
  have hl : lv_has ls 2 [(0, .int a0)] := hl
  have hL2 : ∀ (n2 : Nat) (v0 : Int32) (v1 : Int32) (ls : Array Slot), lv_has ls 2 [(0, .int v0), (1, .int v1)] → X2_ofLetter_2 n2 v0 v1 = some o0 → W p l e (headSpec (Cond.code yX2_ofLetter cX2_ofLetter 2 (some .int) :: gT) { frames := 0, cells := 0, slots := 0, locals := 0 }).room s m [.int a0].toArray below meth c s.heap [] 0 0 (MQ below (k2_QcV (.int o0)) [.int a0].toArray s 0 0 (fun _ => False)) (F0 m 2 ls []) := by
    intro n2
    induction n2 with
    | zero =>
      intro v0 v1 ls hl h
      rw [X2_ofLetter_2] at h
      cases h
    | succ n2 ih2 =>
      intro v0 v1 ls hl h
      rw [X2_ofLetter_2] at h
      refine lv_iload_n hx hb dX2_ofLetter_2 rfl (lv_at hl 1 rfl) ?_
      refine va_gets hx hb z1 hS hown (hT _ w_301) (fun _ h => h) dX2_ofLetter_3 ?_
      refine va_tlen (v := 6) hx hb T1 hS rfl dX2_ofLetter_6 ?_
      refine lv_icmp_ge (tgt := 27) hx hb dX2_ofLetter_7 (by decide) (fun c7 => ?_) (fun c7 => ?_)
      · replace h := if_t c7 h
        refine lv_bipush (v := -9) hx hb dX2_ofLetter_27 (by decide) ?_
        cases h
        exact W.iret hx hb hr (fun t ht _ => ⟨rfl, ht⟩) (fun _ hq => by cases hq) dX2_ofLetter_29
      · replace h := if_f c7 h
        refine va_gets hx hb z1 hS hown (hT _ w_301) (fun _ h => h) dX2_ofLetter_10 ?_
        refine lv_iload_n hx hb dX2_ofLetter_13 rfl (lv_at hl 1 rfl) ?_
        obtain ⟨hi14, h⟩ := gd_e h
        refine va_ti (v := .int (gLet v1.toNatClampNeg)) hx hb T1 hS (ib_in hi14) rfl dX2_ofLetter_14 ?_
        refine lv_iload_n hx hb dX2_ofLetter_15 rfl (lv_at hl 0 rfl) ?_
        refine lv_icmp_ne (tgt := 21) hx hb dX2_ofLetter_16 (by decide) (fun c16 => ?_) (fun c16 => ?_)
        · replace h := if_f c16 h
          refine lv_iinc (v := (v1 + (1 : Int32))) (lv' := [(1, .int (v1 + (1 : Int32))), (0, .int v0)]) hx hb dX2_ofLetter_21 hl (k := 1) rfl rfl (by decide) rfl (fun ls hl => ?_)
          refine lv_goto (tgt := 2) hx hb dX2_ofLetter_24 (by decide) ?_
          exact ih2 v0 (v1 + (1 : Int32)) ls (lv_sub hl [1, 0] rfl) h
        · replace h := if_t c16 h
          refine lv_iload_n hx hb dX2_ofLetter_19 rfl (lv_at hl 1 rfl) ?_
          cases h
          exact W.iret hx hb hr (fun t ht _ => ⟨rfl, ht⟩) (fun _ hq => by cases hq) dX2_ofLetter_20
  rw [X2_ofLetter] at h
  refine lv_iconst (v := 0) hx hb dX2_ofLetter_0 (by decide) ?_
  refine lv_istore_n (lv' := [(1, .int (0 : Int32)), (0, .int a0)]) hx hb dX2_ofLetter_1 rfl hl (by decide) rfl (fun ls hl => ?_)
  exact hL2 500 a0 (0 : Int32) ls (lv_sub hl [1, 0] rfl) h
set_option maxRecDepth 100000 in
set_option maxHeartbeats 4000000 in
theorem c_X2_isA (l : Launch) (X : gX) (gi : Nat → Int32) (gl : Nat → Int64) (ga : Nat → Nat → Int32) (vS : Nat → Nat → Int32) (vF : Nat → Nat → Nat → Int32) (sN : Nat → Int32) (sF : Nat → Nat → Int32) (a0 : Int32) (a1 : Int32) {o0 : Int32} (h : X2_isA a0 a1 = some o0) : Met l yX2_isA (Cond.code yX2_isA cX2_isA 4 (some .boolean) :: gT) { frames := 0, cells := 0, slots := 0, locals := 0 } (va_Pc [.int a0, .int a1] (gPre X gi gl ga vS vF sN sF)) (k2_QcV (.int o0)) 0 0 (fun _ => False) := by
  refine Met.ofW (cc := cX2_isA) (maxL := 4) (ret := (some .boolean)) (by decide) rfl ?_
  intro p e s m args below meth c s₁ B hml hv
  obtain ⟨rfl, hP, hK, hN, hZ⟩ := hv
  have hx := B.exec
  have hb := B.bytes
  have hr := B.returns
  have hts := atoms_spec (ws := (Cond.code yX2_isA cX2_isA 4 (some .boolean) :: gT)) B.pre
  have hT : ∀ w ∈ gT, w.before _ s = true := fun w hw => hts w (List.mem_cons_of_mem _ hw)
  have hown : s.vm.findClass RX2 = some m.cls := findClass_of_methodNamed B.named
  have hlocks := B.notSynchronized
  have hS : va_S (gA X) s.heap s.heap [] := va_S.rf
  obtain ⟨t1, t2, z1, T1, z2, T2⟩ := id hZ
  have hl := lv_entry ([.int a0, .int a1]) (n := 4) (Nat.le_of_ble_eq_true rfl)
  rw [lg_entry_eq]
  generalize (lg_sl ([.int a0, .int a1]) ++ List.replicate (4 - (lg_sl ([.int a0, .int a1])).length) Slot.unset).toArray = ls at hl ⊢
  have hl : lv_has ls 4 [(0, .int a0), (1, .int a1)] := hl
  have hL4 : ∀ (n4 : Nat) (v1 : Int32) (v2 : Int32) (v3 : Int32) (ls : Array Slot), lv_has ls 4 [(1, .int v1), (2, .int v2), (3, .int v3)] → X2_isA_4 n4 v1 v2 v3 = some o0 → W p l e (headSpec (Cond.code yX2_isA cX2_isA 4 (some .boolean) :: gT) { frames := 0, cells := 0, slots := 0, locals := 0 }).room s m [.int a0, .int a1].toArray below meth c s.heap [] 0 0 (MQ below (k2_QcV (.int o0)) [.int a0, .int a1].toArray s 0 0 (fun _ => False)) (F0 m 4 ls []) := by
    intro n4
    induction n4 with
    | zero =>
      intro v1 v2 v3 ls hl h
      rw [X2_isA_4] at h
      cases h
    | succ n4 ih4 =>
      intro v1 v2 v3 ls hl h
      rw [X2_isA_4] at h
      refine lv_iload_n hx hb dX2_isA_4 rfl (lv_at hl 2 rfl) ?_
      refine lv_bipush (v := 6) hx hb dX2_isA_5 (by decide) ?_
      refine lv_icmp_ge (tgt := 41) hx hb dX2_isA_7 (by decide) (fun c7 => ?_) (fun c7 => ?_)
      · replace h := if_t c7 h
        refine lv_iconst (v := 0) hx hb dX2_isA_41 (by decide) ?_
        cases h
        exact W.zret (ty := .boolean) hx hb hr rfl (fun t ht _ => ⟨rfl, ht⟩) (fun _ hq => by cases hq) dX2_isA_42
      · replace h := if_f c7 h
        refine lv_iload_n hx hb dX2_isA_10 rfl (lv_at hl 1 rfl) ?_
        refine lv_if_lt (tgt := 41) hx hb dX2_isA_11 (by decide) (fun c11 => ?_) (fun c11 => ?_)
        · replace h := if_t c11 h
          refine lv_iconst (v := 0) hx hb dX2_isA_41 (by decide) ?_
          cases h
          exact W.zret (ty := .boolean) hx hb hr rfl (fun t ht _ => ⟨rfl, ht⟩) (fun _ hq => by cases hq) dX2_isA_42
        · replace h := if_f c11 h
          refine lv_iload_n hx hb dX2_isA_14 rfl (lv_at hl 1 rfl) ?_
          refine va_gets hx hb z2 hS hown (hT _ w_373) (fun _ h => h) dX2_isA_15 ?_
          refine va_tlen (v := 6) hx hb T2 hS rfl dX2_isA_18 ?_
          refine lv_icmp_ge (tgt := 41) hx hb dX2_isA_19 (by decide) (fun c19 => ?_) (fun c19 => ?_)
          · replace h := if_t c19 h
            refine lv_iconst (v := 0) hx hb dX2_isA_41 (by decide) ?_
            cases h
            exact W.zret (ty := .boolean) hx hb hr rfl (fun t ht _ => ⟨rfl, ht⟩) (fun _ hq => by cases hq) dX2_isA_42
          · replace h := if_f c19 h
            refine lv_iload_n hx hb dX2_isA_22 rfl (lv_at hl 1 rfl) ?_
            refine lv_iload_n hx hb dX2_isA_23 rfl (lv_at hl 0 rfl) ?_
            refine lv_icmp_ne (tgt := 29) hx hb dX2_isA_24 (by decide) (fun c24 => ?_) (fun c24 => ?_)
            · replace h := if_f c24 h
              refine va_gets hx hb z2 hS hown (hT _ w_373) (fun _ h => h) dX2_isA_29 ?_
              refine lv_iload_n hx hb dX2_isA_32 rfl (lv_at hl 1 rfl) ?_
              obtain ⟨hi33, h⟩ := gd_e h
              refine va_ti (v := .int (gCom v2.toNatClampNeg)) hx hb T2 hS (ib_in hi33) rfl dX2_isA_33 ?_
              refine lv_istore_n (lv' := [(2, .int (gCom v2.toNatClampNeg)), (1, .int v1), (3, .int v3)]) hx hb dX2_isA_34 rfl hl (by decide) rfl (fun ls hl => ?_)
              refine lv_iinc (v := (v3 + (1 : Int32))) (lv' := [(3, .int (v3 + (1 : Int32))), (2, .int (gCom v2.toNatClampNeg)), (1, .int v1)]) hx hb dX2_isA_35 hl (k := 2) rfl rfl (by decide) rfl (fun ls hl => ?_)
              refine lv_goto (tgt := 4) hx hb dX2_isA_38 (by decide) ?_
              exact ih4 v1 (gCom v2.toNatClampNeg) (v3 + (1 : Int32)) ls (lv_sub hl [2, 1, 0] rfl) h
            · replace h := if_t c24 h
              refine lv_iconst (v := 1) hx hb dX2_isA_27 (by decide) ?_
              cases h
              exact W.zret (ty := .boolean) hx hb hr rfl (fun t ht _ => ⟨rfl, ht⟩) (fun _ hq => by cases hq) dX2_isA_28
  rw [X2_isA] at h
  refine lv_iload_n hx hb dX2_isA_0 rfl (lv_at hl 0 rfl) ?_
  refine lv_istore_n (lv' := [(2, .int a0), (0, .int a0), (1, .int a1)]) hx hb dX2_isA_1 rfl hl (by decide) rfl (fun ls hl => ?_)
  refine lv_iconst (v := 0) hx hb dX2_isA_2 (by decide) ?_
  refine lv_istore_n (lv' := [(3, .int (0 : Int32)), (2, .int a0), (0, .int a0), (1, .int a1)]) hx hb dX2_isA_3 rfl hl (by decide) rfl (fun ls hl => ?_)
  exact hL4 500 a1 a0 (0 : Int32) ls (lv_sub hl [3, 1, 0] rfl) h
set_option maxRecDepth 100000 in
set_option maxHeartbeats 4000000 in
theorem c_X6_isMissing (l : Launch) (X : gX) (gi : Nat → Int32) (gl : Nat → Int64) (ga : Nat → Nat → Int32) (vS : Nat → Nat → Int32) (vF : Nat → Nat → Nat → Int32) (sN : Nat → Int32) (sF : Nat → Nat → Int32) (j : Nat) (hj : j < 10) {o0 : Int32} (h : X6_isMissing sN j = some o0) : Met l yX6_isMissing (Cond.code yX6_isMissing cX6_isMissing 1 (some .boolean) :: gT) { frames := 0, cells := 0, slots := 0, locals := 0 } (va_Pc [.ref (xAS X j 0)] (gPre X gi gl ga vS vF sN sF)) (k2_QcV (.int o0)) 0 0 (fun _ => False) := by
  refine Met.ofW (cc := cX6_isMissing) (maxL := 1) (ret := (some .boolean)) (by decide) rfl ?_
  intro p e s m args below meth c s₁ B hml hv
  obtain ⟨rfl, hP, hK, hN, hZ⟩ := hv
  have hx := B.exec
  have hb := B.bytes
  have hr := B.returns
  have hts := atoms_spec (ws := (Cond.code yX6_isMissing cX6_isMissing 1 (some .boolean) :: gT)) B.pre
  have hT : ∀ w ∈ gT, w.before _ s = true := fun w hw => hts w (List.mem_cons_of_mem _ hw)
  have hown : s.vm.findClass RX6 = some m.cls := findClass_of_methodNamed B.named
  have hlocks := B.notSynchronized
  have hS : va_S (gA X) s.heap s.heap [] := va_S.rf
  have hl := lv_entry ([.ref (xAS X j 0)]) (n := 1) (Nat.le_of_ble_eq_true rfl)
  rw [lg_entry_eq]
  generalize (lg_sl ([.ref (xAS X j 0)]) ++ List.replicate (1 - (lg_sl ([.ref (xAS X j 0)])).length) Slot.unset).toArray = ls at hl ⊢
  have hl : lv_has ls 1 [(0, .ref (xAS X j 0))] := hl
  rw [X6_isMissing] at h
  refine lv_aload_n hx hb dX6_isMissing_0 rfl (lv_at hl 0 rfl) ?_
  refine rg_S_size (j := j) hx hb hT hown hK hP hj w_178 dX6_isMissing_1 ?_
  refine lv_if_ge (tgt := 11) hx hb dX6_isMissing_4 (by decide) (fun c4 => ?_) (fun c4 => ?_)
  · replace h := if_t c4 h
    refine lv_iconst (v := 0) hx hb dX6_isMissing_11 (by decide) ?_
    cases h
    exact W.zret (ty := .boolean) hx hb hr rfl (fun t ht _ => ⟨rfl, ht⟩) (fun _ hq => by cases hq) dX6_isMissing_12
  · replace h := if_f c4 h
    refine lv_iconst (v := 1) hx hb dX6_isMissing_7 (by decide) ?_
    refine lv_goto (tgt := 12) hx hb dX6_isMissing_8 (by decide) ?_
    cases h
    exact W.zret (ty := .boolean) hx hb hr rfl (fun t ht _ => ⟨rfl, ht⟩) (fun _ hq => by cases hq) dX6_isMissing_12
set_option maxRecDepth 100000 in
set_option maxHeartbeats 4000000 in
theorem c_X6_has (l : Launch) (X : gX) (gi : Nat → Int32) (gl : Nat → Int64) (ga : Nat → Nat → Int32) (vS : Nat → Nat → Int32) (vF : Nat → Nat → Nat → Int32) (sN : Nat → Int32) (sF : Nat → Nat → Int32) (j : Nat) (hj : j < 10) (a1 : Int32) {o0 : Int32} (h : X6_has sN j a1 = some o0) : Met l yX6_has (Cond.code yX6_has cX6_has 2 (some .boolean) :: gT) { frames := 0, cells := 0, slots := 0, locals := 0 } (va_Pc [.ref (xAS X j 0), .int a1] (gPre X gi gl ga vS vF sN sF)) (k2_QcV (.int o0)) 0 0 (fun _ => False) := by
  refine Met.ofW (cc := cX6_has) (maxL := 2) (ret := (some .boolean)) (by decide) rfl ?_
  intro p e s m args below meth c s₁ B hml hv
  obtain ⟨rfl, hP, hK, hN, hZ⟩ := hv
  have hx := B.exec
  have hb := B.bytes
  have hr := B.returns
  have hts := atoms_spec (ws := (Cond.code yX6_has cX6_has 2 (some .boolean) :: gT)) B.pre
  have hT : ∀ w ∈ gT, w.before _ s = true := fun w hw => hts w (List.mem_cons_of_mem _ hw)
  have hown : s.vm.findClass RX6 = some m.cls := findClass_of_methodNamed B.named
  have hlocks := B.notSynchronized
  have hS : va_S (gA X) s.heap s.heap [] := va_S.rf
  have hl := lv_entry ([.ref (xAS X j 0), .int a1]) (n := 2) (Nat.le_of_ble_eq_true rfl)
  rw [lg_entry_eq]
  generalize (lg_sl ([.ref (xAS X j 0), .int a1]) ++ List.replicate (2 - (lg_sl ([.ref (xAS X j 0), .int a1])).length) Slot.unset).toArray = ls at hl ⊢
  have hl : lv_has ls 2 [(0, .ref (xAS X j 0)), (1, .int a1)] := hl
  rw [X6_has] at h
  refine lv_iload_n hx hb dX6_has_0 rfl (lv_at hl 1 rfl) ?_
  refine lv_if_lt (tgt := 16) hx hb dX6_has_1 (by decide) (fun c1 => ?_) (fun c1 => ?_)
  · replace h := if_t c1 h
    refine lv_iconst (v := 0) hx hb dX6_has_16 (by decide) ?_
    cases h
    exact W.zret (ty := .boolean) hx hb hr rfl (fun t ht _ => ⟨rfl, ht⟩) (fun _ hq => by cases hq) dX6_has_17
  · replace h := if_f c1 h
    refine lv_iload_n hx hb dX6_has_4 rfl (lv_at hl 1 rfl) ?_
    refine lv_aload_n hx hb dX6_has_5 rfl (lv_at hl 0 rfl) ?_
    refine rg_S_size (j := j) hx hb hT hown hK hP hj w_178 dX6_has_6 ?_
    refine lv_icmp_ge (tgt := 16) hx hb dX6_has_9 (by decide) (fun c9 => ?_) (fun c9 => ?_)
    · replace h := if_t c9 h
      refine lv_iconst (v := 0) hx hb dX6_has_16 (by decide) ?_
      cases h
      exact W.zret (ty := .boolean) hx hb hr rfl (fun t ht _ => ⟨rfl, ht⟩) (fun _ hq => by cases hq) dX6_has_17
    · replace h := if_f c9 h
      refine lv_iconst (v := 1) hx hb dX6_has_12 (by decide) ?_
      refine lv_goto (tgt := 17) hx hb dX6_has_13 (by decide) ?_
      cases h
      exact W.zret (ty := .boolean) hx hb hr rfl (fun t ht _ => ⟨rfl, ht⟩) (fun _ hq => by cases hq) dX6_has_17
set_option maxRecDepth 100000 in
set_option maxHeartbeats 4000000 in
theorem c_X6_hasRun (l : Launch) (X : gX) (gi : Nat → Int32) (gl : Nat → Int64) (ga : Nat → Nat → Int32) (vS : Nat → Nat → Int32) (vF : Nat → Nat → Nat → Int32) (sN : Nat → Int32) (sF : Nat → Nat → Int32) (j : Nat) (hj : j < 10) (a1 : Int32) (a2 : Int32) {o0 : Int32} (h : X6_hasRun sN j a1 a2 = some o0) : Met l yX6_hasRun (Cond.code yX6_hasRun cX6_hasRun 3 (some .boolean) :: gT) { frames := 0, cells := 0, slots := 0, locals := 0 } (va_Pc [.ref (xAS X j 0), .int a1, .int a2] (gPre X gi gl ga vS vF sN sF)) (k2_QcV (.int o0)) 0 0 (fun _ => False) := by
  refine Met.ofW (cc := cX6_hasRun) (maxL := 3) (ret := (some .boolean)) (by decide) rfl ?_
  intro p e s m args below meth c s₁ B hml hv
  obtain ⟨rfl, hP, hK, hN, hZ⟩ := hv
  have hx := B.exec
  have hb := B.bytes
  have hr := B.returns
  have hts := atoms_spec (ws := (Cond.code yX6_hasRun cX6_hasRun 3 (some .boolean) :: gT)) B.pre
  have hT : ∀ w ∈ gT, w.before _ s = true := fun w hw => hts w (List.mem_cons_of_mem _ hw)
  have hown : s.vm.findClass RX6 = some m.cls := findClass_of_methodNamed B.named
  have hlocks := B.notSynchronized
  have hS : va_S (gA X) s.heap s.heap [] := va_S.rf
  have hl := lv_entry ([.ref (xAS X j 0), .int a1, .int a2]) (n := 3) (Nat.le_of_ble_eq_true rfl)
  rw [lg_entry_eq]
  generalize (lg_sl ([.ref (xAS X j 0), .int a1, .int a2]) ++ List.replicate (3 - (lg_sl ([.ref (xAS X j 0), .int a1, .int a2])).length) Slot.unset).toArray = ls at hl ⊢
  have hl : lv_has ls 3 [(0, .ref (xAS X j 0)), (1, .int a1), (2, .int a2)] := hl
  rw [X6_hasRun] at h
  refine lv_iload_n hx hb dX6_hasRun_0 rfl (lv_at hl 1 rfl) ?_
  refine lv_if_lt (tgt := 30) hx hb dX6_hasRun_1 (by decide) (fun c1 => ?_) (fun c1 => ?_)
  · replace h := if_t c1 h
    refine lv_iconst (v := 0) hx hb dX6_hasRun_30 (by decide) ?_
    cases h
    exact W.zret (ty := .boolean) hx hb hr rfl (fun t ht _ => ⟨rfl, ht⟩) (fun _ hq => by cases hq) dX6_hasRun_31
  · replace h := if_f c1 h
    refine lv_iload_n hx hb dX6_hasRun_4 rfl (lv_at hl 2 rfl) ?_
    refine lv_if_lt (tgt := 30) hx hb dX6_hasRun_5 (by decide) (fun c5 => ?_) (fun c5 => ?_)
    · replace h := if_t c5 h
      refine lv_iconst (v := 0) hx hb dX6_hasRun_30 (by decide) ?_
      cases h
      exact W.zret (ty := .boolean) hx hb hr rfl (fun t ht _ => ⟨rfl, ht⟩) (fun _ hq => by cases hq) dX6_hasRun_31
    · replace h := if_f c5 h
      refine lv_iload_n hx hb dX6_hasRun_8 rfl (lv_at hl 1 rfl) ?_
      refine lv_aload_n hx hb dX6_hasRun_9 rfl (lv_at hl 0 rfl) ?_
      refine rg_S_size (j := j) hx hb hT hown hK hP hj w_178 dX6_hasRun_10 ?_
      refine lv_icmp_gt (tgt := 30) hx hb dX6_hasRun_13 (by decide) (fun c13 => ?_) (fun c13 => ?_)
      · replace h := if_t c13 h
        refine lv_iconst (v := 0) hx hb dX6_hasRun_30 (by decide) ?_
        cases h
        exact W.zret (ty := .boolean) hx hb hr rfl (fun t ht _ => ⟨rfl, ht⟩) (fun _ hq => by cases hq) dX6_hasRun_31
      · replace h := if_f c13 h
        refine lv_iload_n hx hb dX6_hasRun_16 rfl (lv_at hl 2 rfl) ?_
        refine lv_aload_n hx hb dX6_hasRun_17 rfl (lv_at hl 0 rfl) ?_
        refine rg_S_size (j := j) hx hb hT hown hK hP hj w_178 dX6_hasRun_18 ?_
        refine lv_iload_n hx hb dX6_hasRun_21 rfl (lv_at hl 1 rfl) ?_
        refine lv_isub hx hb dX6_hasRun_22 ?_
        refine lv_icmp_gt (tgt := 30) hx hb dX6_hasRun_23 (by decide) (fun c23 => ?_) (fun c23 => ?_)
        · replace h := if_t c23 h
          refine lv_iconst (v := 0) hx hb dX6_hasRun_30 (by decide) ?_
          cases h
          exact W.zret (ty := .boolean) hx hb hr rfl (fun t ht _ => ⟨rfl, ht⟩) (fun _ hq => by cases hq) dX6_hasRun_31
        · replace h := if_f c23 h
          refine lv_iconst (v := 1) hx hb dX6_hasRun_26 (by decide) ?_
          refine lv_goto (tgt := 31) hx hb dX6_hasRun_27 (by decide) ?_
          cases h
          exact W.zret (ty := .boolean) hx hb hr rfl (fun t ht _ => ⟨rfl, ht⟩) (fun _ hq => by cases hq) dX6_hasRun_31
set_option maxRecDepth 100000 in
set_option maxHeartbeats 4000000 in
theorem c_X6_layOut (l : Launch) (X : gX) (gi : Nat → Int32) (gl : Nat → Int64) (ga : Nat → Nat → Int32) (vS : Nat → Nat → Int32) (vF : Nat → Nat → Nat → Int32) (sN : Nat → Int32) (sF : Nat → Nat → Int32) (j : Nat) (hj : j < 10) (a1 : Int32) (a2 : Int32) {o_sN : Nat → Int32} {o_sF : Nat → Nat → Int32} (h : X6_layOut j a1 a2 sN sF = some (o_sN, o_sF)) : Met l yX6_layOut (Cond.code yX6_layOut cX6_layOut 3 none :: gT) { frames := 1, cells := 0, slots := 0, locals := 23 } (va_Pc [.ref (xAS X j 0), .int a1, .int a2] (gPre X gi gl ga vS vF sN sF)) (wQ none (fun H => va_P X.1 vwCl (cG X gi gl ga vS vF o_sN o_sF) H) (gA X)) 0 0 (gA X) := by
  refine Met.ofW (cc := cX6_layOut) (maxL := 3) (ret := none) (by decide) rfl ?_
  intro p e s m args below meth c s₁ B hml hv
  obtain ⟨rfl, hP, hK, hN, hZ⟩ := hv
  have hx := B.exec
  have hb := B.bytes
  have hr := B.returns
  have hts := atoms_spec (ws := (Cond.code yX6_layOut cX6_layOut 3 none :: gT)) B.pre
  have hT : ∀ w ∈ gT, w.before _ s = true := fun w hw => hts w (List.mem_cons_of_mem _ hw)
  have hown : s.vm.findClass RX6 = some m.cls := findClass_of_methodNamed B.named
  have hlocks := B.notSynchronized
  have hS : va_S (gA X) s.heap s.heap [] := va_S.rf
  have hl := lv_entry ([.ref (xAS X j 0), .int a1, .int a2]) (n := 3) (Nat.le_of_ble_eq_true rfl)
  rw [lg_entry_eq]
  generalize (lg_sl ([.ref (xAS X j 0), .int a1, .int a2]) ++ List.replicate (3 - (lg_sl ([.ref (xAS X j 0), .int a1, .int a2])).length) Slot.unset).toArray = ls at hl ⊢
  have hl : lv_has ls 3 [(0, .ref (xAS X j 0)), (1, .int a1), (2, .int a2)] := hl
  rw [X6_layOut] at h
  refine lv_iload_n hx hb dX6_layOut_0 rfl (lv_at hl 1 rfl) ?_
  refine lv_if_lt (tgt := 13) hx hb dX6_layOut_1 (by decide) (fun c1 => ?_) (fun c1 => ?_)
  · replace h := if_t c1 h
    cases h
    exact W.vret hx hb hr (fun t ht _ => ⟨rfl, by rw [ht]; exact hP, hS.F ht⟩) hS.2.2 dX6_layOut_13
  · replace h := if_f c1 h
    refine lv_iload_n hx hb dX6_layOut_4 rfl (lv_at hl 1 rfl) ?_
    refine lv_aload_n hx hb dX6_layOut_5 rfl (lv_at hl 0 rfl) ?_
    refine rg_S_cells (j := j) hx hb hT hown hK hP hj w_174 dX6_layOut_6 ?_
    refine rl_s (j := j) hx hb hK hP hj dX6_layOut_9 ?_
    refine lv_icmp_le (tgt := 14) hx hb dX6_layOut_10 (by decide) (fun c10 => ?_) (fun c10 => ?_)
    · replace h := if_t c10 h
      refine lv_aload_n hx hb dX6_layOut_14 rfl (lv_at hl 0 rfl) ?_
      refine lv_iload_n hx hb dX6_layOut_15 rfl (lv_at hl 1 rfl) ?_
      refine rp_S_size (j := j) hx hb hT hown hK hP hN hS hj w_178 dX6_layOut_16 (fun H locs hP hS => ?_)
      generalize esN_16 : va_up sN j a1 = sN_16 at hP
      replace h := lt_g h esN_16
      refine lv_aload_n hx hb dX6_layOut_19 rfl (lv_at hl 0 rfl) ?_
      refine rg_S_cells (j := j) hx hb hT hown hK hP hj w_174 dX6_layOut_20 ?_
      refine lv_iload_n hx hb dX6_layOut_23 rfl (lv_at hl 2 rfl) ?_
      obtain ⟨sF_24, hc24, h⟩ := Option.bind_eq_some_iff.mp h
      refine wcS (As := [.ref (xAS X j 1), .int a2]) (rest := []) ⟨hx, hb, hml, hown, hts⟩ (c_J7_fill_53178_s l X gi gl ga vS vF sN_16 sF j hj a2 hc24) ⟨w_235, w_236, w_59, w_237⟩ hd_J7_fill_53178 rfl rfl ⟨(Nat.le_of_ble_eq_true rfl), (Nat.le_of_ble_eq_true rfl)⟩ ⟨Nat.zero_le _, Nat.zero_le _⟩ gPre_blind (gPre_call hP hK hN hZ hS) hS (fun _ h => h) rfl rfl hl.1 (Nat.le_of_ble_eq_true rfl) dX6_layOut_24 (fun H locs hP _ hS => ?_)
      have hP : va_P X.1 vwCl (cG X gi gl ga vS vF sN_16 sF_24) H := hP
      refine W.eq (g2 := F0 m 27 ls []) rfl ?_
      cases h
      exact W.vret hx hb hr (fun t ht _ => ⟨rfl, by rw [ht]; exact hP, hS.F ht⟩) hS.2.2 dX6_layOut_27
    · replace h := if_f c10 h
      cases h
      exact W.vret hx hb hr (fun t ht _ => ⟨rfl, by rw [ht]; exact hP, hS.F ht⟩) hS.2.2 dX6_layOut_13
set_option maxRecDepth 100000 in
set_option maxHeartbeats 4000000 in
theorem c_X6_add (l : Launch) (X : gX) (gi : Nat → Int32) (gl : Nat → Int64) (ga : Nat → Nat → Int32) (vS : Nat → Nat → Int32) (vF : Nat → Nat → Nat → Int32) (sN : Nat → Int32) (sF : Nat → Nat → Int32) (j : Nat) (hj : j < 10) (a1 : Int32) {o_sN : Nat → Int32} {o_sF : Nat → Nat → Int32} (h : X6_add j a1 sN sF = some (o_sN, o_sF)) : Met l yX6_add (Cond.code yX6_add cX6_add 2 none :: gT) { frames := 0, cells := 0, slots := 0, locals := 0 } (va_Pc [.ref (xAS X j 0), .int a1] (gPre X gi gl ga vS vF sN sF)) (wQ none (fun H => va_P X.1 vwCl (cG X gi gl ga vS vF o_sN o_sF) H) (gA X)) 0 0 (gA X) := by
  refine Met.ofW (cc := cX6_add) (maxL := 2) (ret := none) (by decide) rfl ?_
  intro p e s m args below meth c s₁ B hml hv
  obtain ⟨rfl, hP, hK, hN, hZ⟩ := hv
  have hx := B.exec
  have hb := B.bytes
  have hr := B.returns
  have hts := atoms_spec (ws := (Cond.code yX6_add cX6_add 2 none :: gT)) B.pre
  have hT : ∀ w ∈ gT, w.before _ s = true := fun w hw => hts w (List.mem_cons_of_mem _ hw)
  have hown : s.vm.findClass RX6 = some m.cls := findClass_of_methodNamed B.named
  have hlocks := B.notSynchronized
  have hS : va_S (gA X) s.heap s.heap [] := va_S.rf
  have hl := lv_entry ([.ref (xAS X j 0), .int a1]) (n := 2) (Nat.le_of_ble_eq_true rfl)
  rw [lg_entry_eq]
  generalize (lg_sl ([.ref (xAS X j 0), .int a1]) ++ List.replicate (2 - (lg_sl ([.ref (xAS X j 0), .int a1])).length) Slot.unset).toArray = ls at hl ⊢
  have hl : lv_has ls 2 [(0, .ref (xAS X j 0)), (1, .int a1)] := hl
  rw [X6_add] at h
  refine lv_aload_n hx hb dX6_add_0 rfl (lv_at hl 0 rfl) ?_
  refine rg_S_size (j := j) hx hb hT hown hK hP hj w_178 dX6_add_1 ?_
  refine lv_if_lt (tgt := 39) hx hb dX6_add_4 (by decide) (fun c4 => ?_) (fun c4 => ?_)
  · replace h := if_t c4 h
    cases h
    exact W.vret hx hb hr (fun t ht _ => ⟨rfl, by rw [ht]; exact hP, hS.F ht⟩) hS.2.2 dX6_add_39
  · replace h := if_f c4 h
    refine lv_aload_n hx hb dX6_add_7 rfl (lv_at hl 0 rfl) ?_
    refine rg_S_size (j := j) hx hb hT hown hK hP hj w_178 dX6_add_8 ?_
    refine lv_aload_n hx hb dX6_add_11 rfl (lv_at hl 0 rfl) ?_
    refine rg_S_cells (j := j) hx hb hT hown hK hP hj w_174 dX6_add_12 ?_
    refine rl_s (j := j) hx hb hK hP hj dX6_add_15 ?_
    refine lv_icmp_ge (tgt := 39) hx hb dX6_add_16 (by decide) (fun c16 => ?_) (fun c16 => ?_)
    · replace h := if_t c16 h
      cases h
      exact W.vret hx hb hr (fun t ht _ => ⟨rfl, by rw [ht]; exact hP, hS.F ht⟩) hS.2.2 dX6_add_39
    · replace h := if_f c16 h
      refine lv_aload_n hx hb dX6_add_19 rfl (lv_at hl 0 rfl) ?_
      refine rg_S_cells (j := j) hx hb hT hown hK hP hj w_174 dX6_add_20 ?_
      refine lv_aload_n hx hb dX6_add_23 rfl (lv_at hl 0 rfl) ?_
      refine rg_S_size (j := j) hx hb hT hown hK hP hj w_178 dX6_add_24 ?_
      refine lv_iload_n hx hb dX6_add_27 rfl (lv_at hl 1 rfl) ?_
      obtain ⟨hi28, h⟩ := gd_e h
      refine rs_s (j := j) hx hb hK hP hN hS hj (ib_in hi28) dX6_add_28 (fun H locs hP hS => ?_)
      generalize esF_28 : va_up sF j (upd (sF j) (sN j).toNatClampNeg a1) = sF_28 at hP
      replace h := lt_g h esF_28
      refine lv_aload_n hx hb dX6_add_29 rfl (lv_at hl 0 rfl) ?_
      refine lv_dup hx hb dX6_add_30 rfl ?_
      refine rg_S_size (j := j) hx hb hT hown hK hP hj w_178 dX6_add_31 ?_
      refine lv_iconst (v := 1) hx hb dX6_add_34 (by decide) ?_
      refine lv_iadd hx hb dX6_add_35 ?_
      refine rp_S_size (j := j) hx hb hT hown hK hP hN hS hj w_178 dX6_add_36 (fun H locs hP hS => ?_)
      generalize esN_36 : va_up sN j ((sN j) + (1 : Int32)) = sN_36 at hP
      replace h := lt_g h esN_36
      cases h
      exact W.vret hx hb hr (fun t ht _ => ⟨rfl, by rw [ht]; exact hP, hS.F ht⟩) hS.2.2 dX6_add_39
set_option maxRecDepth 100000 in
set_option maxHeartbeats 4000000 in
theorem c_X6_sum (l : Launch) (X : gX) (gi : Nat → Int32) (gl : Nat → Int64) (ga : Nat → Nat → Int32) (vS : Nat → Nat → Int32) (vF : Nat → Nat → Nat → Int32) (sN : Nat → Int32) (sF : Nat → Nat → Int32) (j : Nat) (hj : j < 10) {o0 : Int64} (h : X6_sum sN sF j = some o0) : Met l yX6_sum (Cond.code yX6_sum cX6_sum 4 (some .long) :: gT) { frames := 0, cells := 0, slots := 0, locals := 0 } (va_Pc [.ref (xAS X j 0)] (gPre X gi gl ga vS vF sN sF)) (k2_QcV (.long o0)) 0 0 (fun _ => False) := by
  refine Met.ofW (cc := cX6_sum) (maxL := 4) (ret := (some .long)) (by decide) rfl ?_
  intro p e s m args below meth c s₁ B hml hv
  obtain ⟨rfl, hP, hK, hN, hZ⟩ := hv
  have hx := B.exec
  have hb := B.bytes
  have hr := B.returns
  have hts := atoms_spec (ws := (Cond.code yX6_sum cX6_sum 4 (some .long) :: gT)) B.pre
  have hT : ∀ w ∈ gT, w.before _ s = true := fun w hw => hts w (List.mem_cons_of_mem _ hw)
  have hown : s.vm.findClass RX6 = some m.cls := findClass_of_methodNamed B.named
  have hlocks := B.notSynchronized
  have hS : va_S (gA X) s.heap s.heap [] := va_S.rf
  have hl := lv_entry ([.ref (xAS X j 0)]) (n := 4) (Nat.le_of_ble_eq_true rfl)
  rw [lg_entry_eq]
  generalize (lg_sl ([.ref (xAS X j 0)]) ++ List.replicate (4 - (lg_sl ([.ref (xAS X j 0)])).length) Slot.unset).toArray = ls at hl ⊢
  have hl : lv_has ls 4 [(0, .ref (xAS X j 0))] := hl
  have hL4 : ∀ (n4 : Nat) (v1 : Int64) (v3 : Int32) (ls : Array Slot), lv_has ls 4 [(0, .ref (xAS X j 0)), (1, .long v1), (3, .int v3)] → X6_sum_4 sN sF j n4 v1 v3 = some o0 → W p l e (headSpec (Cond.code yX6_sum cX6_sum 4 (some .long) :: gT) { frames := 0, cells := 0, slots := 0, locals := 0 }).room s m [.ref (xAS X j 0)].toArray below meth c s.heap [] 0 0 (MQ below (k2_QcV (.long o0)) [.ref (xAS X j 0)].toArray s 0 0 (fun _ => False)) (F0 m 4 ls []) := by
    intro n4
    induction n4 with
    | zero =>
      intro v1 v3 ls hl h
      rw [X6_sum_4] at h
      cases h
    | succ n4 ih4 =>
      intro v1 v3 ls hl h
      rw [X6_sum_4] at h
      refine lv_iload_n hx hb dX6_sum_4 rfl (lv_at hl 2 rfl) ?_
      refine lv_aload_n hx hb dX6_sum_5 rfl (lv_at hl 0 rfl) ?_
      refine rg_S_size (j := j) hx hb hT hown hK hP hj w_178 dX6_sum_6 ?_
      refine lv_icmp_ge (tgt := 28) hx hb dX6_sum_9 (by decide) (fun c9 => ?_) (fun c9 => ?_)
      · replace h := if_t c9 h
        refine lv_lload_n hx hb dX6_sum_28 rfl (lv_at hl 1 rfl) ?_
        cases h
        exact W.lret hx hb hr (fun t ht _ => ⟨rfl, ht⟩) (fun _ hq => by cases hq) dX6_sum_29
      · replace h := if_f c9 h
        refine lv_lload_n hx hb dX6_sum_12 rfl (lv_at hl 1 rfl) ?_
        refine lv_aload_n hx hb dX6_sum_13 rfl (lv_at hl 0 rfl) ?_
        refine rg_S_cells (j := j) hx hb hT hown hK hP hj w_174 dX6_sum_14 ?_
        refine lv_iload_n hx hb dX6_sum_17 rfl (lv_at hl 2 rfl) ?_
        obtain ⟨hi18, h⟩ := gd_e h
        refine ra_s (j := j) hx hb hK hP hj (ib_in hi18) dX6_sum_18 ?_
        refine lv_i2l hx hb dX6_sum_19 rfl ?_
        refine lv_ladd hx hb dX6_sum_20 ?_
        refine lv_lstore_n (lv' := [(1, .long (v1 + (sF j v3.toNatClampNeg).toInt64)), (0, .ref (xAS X j 0)), (3, .int v3)]) hx hb dX6_sum_21 rfl hl (by decide) rfl (fun ls hl => ?_)
        refine lv_iinc (v := (v3 + (1 : Int32))) (lv' := [(3, .int (v3 + (1 : Int32))), (1, .long (v1 + (sF j v3.toNatClampNeg).toInt64)), (0, .ref (xAS X j 0))]) hx hb dX6_sum_22 hl (k := 2) rfl rfl (by decide) rfl (fun ls hl => ?_)
        refine lv_goto (tgt := 4) hx hb dX6_sum_25 (by decide) ?_
        exact ih4 (v1 + (sF j v3.toNatClampNeg).toInt64) (v3 + (1 : Int32)) ls (lv_sub hl [2, 1, 0] rfl) h
  rw [X6_sum] at h
  refine lv_lconst (v := 0) hx hb dX6_sum_0 (by decide) ?_
  refine lv_lstore_n (lv' := [(1, .long (0 : Int64)), (0, .ref (xAS X j 0))]) hx hb dX6_sum_1 rfl hl (by decide) rfl (fun ls hl => ?_)
  refine lv_iconst (v := 0) hx hb dX6_sum_2 (by decide) ?_
  refine lv_istore_n (lv' := [(3, .int (0 : Int32)), (1, .long (0 : Int64)), (0, .ref (xAS X j 0))]) hx hb dX6_sum_3 rfl hl (by decide) rfl (fun ls hl => ?_)
  exact hL4 500 (0 : Int64) (0 : Int32) ls (lv_sub hl [2, 1, 0] rfl) h
set_option maxRecDepth 100000 in
set_option maxHeartbeats 4000000 in
theorem c_X6_mixInto (l : Launch) (X : gX) (gi : Nat → Int32) (gl : Nat → Int64) (ga : Nat → Nat → Int32) (vS : Nat → Nat → Int32) (vF : Nat → Nat → Nat → Int32) (sN : Nat → Int32) (sF : Nat → Nat → Int32) (j : Nat) (hj : j < 10) (a1 : Int64) {o0 : Int64} (h : X6_mixInto sN sF j a1 = some o0) : Met l yX6_mixInto (Cond.code yX6_mixInto cX6_mixInto 6 (some .long) :: gT) { frames := 0, cells := 0, slots := 0, locals := 0 } (va_Pc [.ref (xAS X j 0), .long a1] (gPre X gi gl ga vS vF sN sF)) (k2_QcV (.long o0)) 0 0 (fun _ => False) := by
  refine Met.ofW (cc := cX6_mixInto) (maxL := 6) (ret := (some .long)) (by decide) rfl ?_
  intro p e s m args below meth c s₁ B hml hv
  obtain ⟨rfl, hP, hK, hN, hZ⟩ := hv
  have hx := B.exec
  have hb := B.bytes
  have hr := B.returns
  have hts := atoms_spec (ws := (Cond.code yX6_mixInto cX6_mixInto 6 (some .long) :: gT)) B.pre
  have hT : ∀ w ∈ gT, w.before _ s = true := fun w hw => hts w (List.mem_cons_of_mem _ hw)
  have hown : s.vm.findClass RX6 = some m.cls := findClass_of_methodNamed B.named
  have hlocks := B.notSynchronized
  have hS : va_S (gA X) s.heap s.heap [] := va_S.rf
  have hl := lv_entry ([.ref (xAS X j 0), .long a1]) (n := 6) (Nat.le_of_ble_eq_true rfl)
  rw [lg_entry_eq]
  generalize (lg_sl ([.ref (xAS X j 0), .long a1]) ++ List.replicate (6 - (lg_sl ([.ref (xAS X j 0), .long a1])).length) Slot.unset).toArray = ls at hl ⊢
  have hl : lv_has ls 6 [(0, .ref (xAS X j 0)), (1, .long a1)] := hl
  have hL15 : ∀ (n15 : Nat) (v3 : Int64) (v5 : Int32) (ls : Array Slot), lv_has ls 6 [(0, .ref (xAS X j 0)), (3, .long v3), (5, .int v5)] → X6_mixInto_15 sN sF j n15 v3 v5 = some o0 → W p l e (headSpec (Cond.code yX6_mixInto cX6_mixInto 6 (some .long) :: gT) { frames := 0, cells := 0, slots := 0, locals := 0 }).room s m [.ref (xAS X j 0), .long a1].toArray below meth c s.heap [] 0 0 (MQ below (k2_QcV (.long o0)) [.ref (xAS X j 0), .long a1].toArray s 0 0 (fun _ => False)) (F0 m 15 ls []) := by
    intro n15
    induction n15 with
    | zero =>
      intro v3 v5 ls hl h
      rw [X6_mixInto_15] at h
      cases h
    | succ n15 ih15 =>
      intro v3 v5 ls hl h
      rw [X6_mixInto_15] at h
      refine lv_iload hx hb dX6_mixInto_15 (lv_at hl 2 rfl) ?_
      refine lv_aload_n hx hb dX6_mixInto_17 rfl (lv_at hl 0 rfl) ?_
      refine rg_S_size (j := j) hx hb hT hown hK hP hj w_178 dX6_mixInto_18 ?_
      refine lv_icmp_ge (tgt := 45) hx hb dX6_mixInto_21 (by decide) (fun c21 => ?_) (fun c21 => ?_)
      · replace h := if_t c21 h
        refine lv_lload_n hx hb dX6_mixInto_45 rfl (lv_at hl 1 rfl) ?_
        cases h
        exact W.lret hx hb hr (fun t ht _ => ⟨rfl, ht⟩) (fun _ hq => by cases hq) dX6_mixInto_46
      · replace h := if_f c21 h
        refine lv_ldc2 (v := 31) hx hb hown (hT _ w_772) dX6_mixInto_24 ?_
        refine lv_lload_n hx hb dX6_mixInto_27 rfl (lv_at hl 1 rfl) ?_
        refine lv_lmul hx hb dX6_mixInto_28 ?_
        refine lv_aload_n hx hb dX6_mixInto_29 rfl (lv_at hl 0 rfl) ?_
        refine rg_S_cells (j := j) hx hb hT hown hK hP hj w_174 dX6_mixInto_30 ?_
        refine lv_iload hx hb dX6_mixInto_33 (lv_at hl 2 rfl) ?_
        obtain ⟨hi35, h⟩ := gd_e h
        refine ra_s (j := j) hx hb hK hP hj (ib_in hi35) dX6_mixInto_35 ?_
        refine lv_i2l hx hb dX6_mixInto_36 rfl ?_
        refine lv_ladd hx hb dX6_mixInto_37 ?_
        refine lv_topl (fun v3_38 ev3_38 => ?_)
        replace h := lt_e h ev3_38
        refine lv_lstore_n (lv' := [(3, .long v3_38), (0, .ref (xAS X j 0)), (5, .int v5)]) hx hb dX6_mixInto_38 rfl hl (by decide) rfl (fun ls hl => ?_)
        refine lv_iinc (v := (v5 + (1 : Int32))) (lv' := [(5, .int (v5 + (1 : Int32))), (3, .long v3_38), (0, .ref (xAS X j 0))]) hx hb dX6_mixInto_39 hl (k := 2) rfl rfl (by decide) rfl (fun ls hl => ?_)
        refine lv_goto (tgt := 15) hx hb dX6_mixInto_42 (by decide) ?_
        exact ih15 v3_38 (v5 + (1 : Int32)) ls (lv_sub hl [2, 1, 0] rfl) h
  rw [X6_mixInto] at h
  refine lv_ldc2 (v := 31) hx hb hown (hT _ w_772) dX6_mixInto_0 ?_
  refine lv_lload_n hx hb dX6_mixInto_3 rfl (lv_at hl 1 rfl) ?_
  refine lv_lmul hx hb dX6_mixInto_4 ?_
  refine lv_aload_n hx hb dX6_mixInto_5 rfl (lv_at hl 0 rfl) ?_
  refine rg_S_size (j := j) hx hb hT hown hK hP hj w_178 dX6_mixInto_6 ?_
  refine lv_i2l hx hb dX6_mixInto_9 rfl ?_
  refine lv_ladd hx hb dX6_mixInto_10 ?_
  refine lv_lstore_n (lv' := [(3, .long (((31 : Int64) * a1) + (sN j).toInt64)), (0, .ref (xAS X j 0)), (1, .long a1)]) hx hb dX6_mixInto_11 rfl hl (by decide) rfl (fun ls hl => ?_)
  refine lv_iconst (v := 0) hx hb dX6_mixInto_12 (by decide) ?_
  refine lv_istore (lv' := [(5, .int (0 : Int32)), (3, .long (((31 : Int64) * a1) + (sN j).toInt64)), (0, .ref (xAS X j 0)), (1, .long a1)]) hx hb dX6_mixInto_13 hl (by decide) rfl (fun ls hl => ?_)
  exact hL15 500 (((31 : Int64) * a1) + (sN j).toInt64) (0 : Int32) ls (lv_sub hl [2, 1, 0] rfl) h
set_option maxRecDepth 100000 in
set_option maxHeartbeats 4000000 in
theorem c_X7_isPerson (l : Launch) (X : gX) (gi : Nat → Int32) (gl : Nat → Int64) (ga : Nat → Nat → Int32) (vS : Nat → Nat → Int32) (vF : Nat → Nat → Nat → Int32) (sN : Nat → Int32) (sF : Nat → Nat → Int32) (a1 : Int32) {o0 : Int32} (h : X7_isPerson vS a1 = some o0) : Met l yX7_isPerson (Cond.code yX7_isPerson cX7_isPerson 2 (some .boolean) :: gT) { frames := 0, cells := 0, slots := 0, locals := 0 } (va_Pc [.ref (xAV X (0) 0), .int a1] (gPre X gi gl ga vS vF sN sF)) (k2_QcV (.int o0)) 0 0 (fun _ => False) := by
  refine Met.ofW (cc := cX7_isPerson) (maxL := 2) (ret := (some .boolean)) (by decide) rfl ?_
  intro p e s m args below meth c s₁ B hml hv
  obtain ⟨rfl, hP, hK, hN, hZ⟩ := hv
  have hx := B.exec
  have hb := B.bytes
  have hr := B.returns
  have hts := atoms_spec (ws := (Cond.code yX7_isPerson cX7_isPerson 2 (some .boolean) :: gT)) B.pre
  have hT : ∀ w ∈ gT, w.before _ s = true := fun w hw => hts w (List.mem_cons_of_mem _ hw)
  have hown : s.vm.findClass RX7 = some m.cls := findClass_of_methodNamed B.named
  have hlocks := B.notSynchronized
  have hS : va_S (gA X) s.heap s.heap [] := va_S.rf
  have hl := lv_entry ([.ref (xAV X (0) 0), .int a1]) (n := 2) (Nat.le_of_ble_eq_true rfl)
  rw [lg_entry_eq]
  generalize (lg_sl ([.ref (xAV X (0) 0), .int a1]) ++ List.replicate (2 - (lg_sl ([.ref (xAV X (0) 0), .int a1])).length) Slot.unset).toArray = ls at hl ⊢
  have hl : lv_has ls 2 [(0, .ref (xAV X (0) 0)), (1, .int a1)] := hl
  rw [X7_isPerson] at h
  refine lv_iload_n hx hb dX7_isPerson_0 rfl (lv_at hl 1 rfl) ?_
  refine lv_if_lt (tgt := 22) hx hb dX7_isPerson_1 (by decide) (fun c1 => ?_) (fun c1 => ?_)
  · replace h := if_t c1 h
    refine lv_iconst (v := 0) hx hb dX7_isPerson_22 (by decide) ?_
    cases h
    exact W.zret (ty := .boolean) hx hb hr rfl (fun t ht _ => ⟨rfl, ht⟩) (fun _ hq => by cases hq) dX7_isPerson_23
  · replace h := if_f c1 h
    refine lv_iload_n hx hb dX7_isPerson_4 rfl (lv_at hl 1 rfl) ?_
    refine lv_aload_n hx hb dX7_isPerson_5 rfl (lv_at hl 0 rfl) ?_
    refine rg_V_people (q := (0)) hx hb hT hown hK hP (by decide : 0 < 4) w_82 dX7_isPerson_6 ?_
    refine lv_icmp_ge (tgt := 22) hx hb dX7_isPerson_9 (by decide) (fun c9 => ?_) (fun c9 => ?_)
    · replace h := if_t c9 h
      refine lv_iconst (v := 0) hx hb dX7_isPerson_22 (by decide) ?_
      cases h
      exact W.zret (ty := .boolean) hx hb hr rfl (fun t ht _ => ⟨rfl, ht⟩) (fun _ hq => by cases hq) dX7_isPerson_23
    · replace h := if_f c9 h
      refine lv_iload_n hx hb dX7_isPerson_12 rfl (lv_at hl 1 rfl) ?_
      refine lv_bipush (v := 7) hx hb dX7_isPerson_13 (by decide) ?_
      refine lv_icmp_ge (tgt := 22) hx hb dX7_isPerson_15 (by decide) (fun c15 => ?_) (fun c15 => ?_)
      · replace h := if_t c15 h
        refine lv_iconst (v := 0) hx hb dX7_isPerson_22 (by decide) ?_
        cases h
        exact W.zret (ty := .boolean) hx hb hr rfl (fun t ht _ => ⟨rfl, ht⟩) (fun _ hq => by cases hq) dX7_isPerson_23
      · replace h := if_f c15 h
        refine lv_iconst (v := 1) hx hb dX7_isPerson_18 (by decide) ?_
        refine lv_goto (tgt := 23) hx hb dX7_isPerson_19 (by decide) ?_
        cases h
        exact W.zret (ty := .boolean) hx hb hr rfl (fun t ht _ => ⟨rfl, ht⟩) (fun _ hq => by cases hq) dX7_isPerson_23
set_option maxRecDepth 100000 in
set_option maxHeartbeats 4000000 in
theorem c_X7_isHold (l : Launch) (X : gX) (gi : Nat → Int32) (gl : Nat → Int64) (ga : Nat → Nat → Int32) (vS : Nat → Nat → Int32) (vF : Nat → Nat → Nat → Int32) (sN : Nat → Int32) (sF : Nat → Nat → Int32) (a1 : Int32) {o0 : Int32} (h : X7_isHold vS a1 = some o0) : Met l yX7_isHold (Cond.code yX7_isHold cX7_isHold 2 (some .boolean) :: gT) { frames := 1, cells := 0, slots := 0, locals := 21 } (va_Pc [.ref (xAV X (0) 0), .int a1] (gPre X gi gl ga vS vF sN sF)) (k2_QcV (.int o0)) 0 0 (fun _ => False) := by
  refine Met.ofW (cc := cX7_isHold) (maxL := 2) (ret := (some .boolean)) (by decide) rfl ?_
  intro p e s m args below meth c s₁ B hml hv
  obtain ⟨rfl, hP, hK, hN, hZ⟩ := hv
  have hx := B.exec
  have hb := B.bytes
  have hr := B.returns
  have hts := atoms_spec (ws := (Cond.code yX7_isHold cX7_isHold 2 (some .boolean) :: gT)) B.pre
  have hT : ∀ w ∈ gT, w.before _ s = true := fun w hw => hts w (List.mem_cons_of_mem _ hw)
  have hown : s.vm.findClass RX7 = some m.cls := findClass_of_methodNamed B.named
  have hlocks := B.notSynchronized
  have hS : va_S (gA X) s.heap s.heap [] := va_S.rf
  have hl := lv_entry ([.ref (xAV X (0) 0), .int a1]) (n := 2) (Nat.le_of_ble_eq_true rfl)
  rw [lg_entry_eq]
  generalize (lg_sl ([.ref (xAV X (0) 0), .int a1]) ++ List.replicate (2 - (lg_sl ([.ref (xAV X (0) 0), .int a1])).length) Slot.unset).toArray = ls at hl ⊢
  have hl : lv_has ls 2 [(0, .ref (xAV X (0) 0)), (1, .int a1)] := hl
  rw [X7_isHold] at h
  refine lv_iload_n hx hb dX7_isHold_0 rfl (lv_at hl 1 rfl) ?_
  refine lv_bipush (v := 9) hx hb dX7_isHold_1 (by decide) ?_
  refine lv_icmp_eq (tgt := 14) hx hb dX7_isHold_3 (by decide) (fun c3 => ?_) (fun c3 => ?_)
  · replace h := if_t c3 h
    refine lv_iconst (v := 1) hx hb dX7_isHold_14 (by decide) ?_
    refine lv_goto (tgt := 19) hx hb dX7_isHold_15 (by decide) ?_
    cases h
    exact W.zret (ty := .boolean) hx hb hr rfl (fun t ht _ => ⟨rfl, ht⟩) (fun _ hq => by cases hq) dX7_isHold_19
  · replace h := if_f c3 h
    refine lv_aload_n hx hb dX7_isHold_6 rfl (lv_at hl 0 rfl) ?_
    refine lv_iload_n hx hb dX7_isHold_7 rfl (lv_at hl 1 rfl) ?_
    obtain ⟨r8, hc8, h⟩ := Option.bind_eq_some_iff.mp h
    refine rcV (As := [.int a1]) (rest := []) ⟨hx, hb, hml, hown, hts⟩ (c_X7_isPerson l X gi gl ga vS vF sN sF a1 hc8) ⟨w_340, w_329, w_330, w_53, w_331⟩ hd_X7_isPerson rfl rfl ⟨(Nat.le_of_ble_eq_true rfl), (Nat.le_of_ble_eq_true rfl)⟩ ⟨Nat.zero_le _, Nat.zero_le _⟩ gPre_blind (va_recv hK hP (ci := 3) rfl (cG_v (by decide : 0 < 4))) (gPre_call hP hK hN hZ hS) rfl rfl hl.1 (Nat.le_of_ble_eq_true rfl) dX7_isHold_8 ?_
    refine lv_if_eq (tgt := 18) hx hb dX7_isHold_11 (by decide) (fun c11 => ?_) (fun c11 => ?_)
    · replace h := if_t c11 h
      refine lv_iconst (v := 0) hx hb dX7_isHold_18 (by decide) ?_
      cases h
      exact W.zret (ty := .boolean) hx hb hr rfl (fun t ht _ => ⟨rfl, ht⟩) (fun _ hq => by cases hq) dX7_isHold_19
    · replace h := if_f c11 h
      refine lv_iconst (v := 1) hx hb dX7_isHold_14 (by decide) ?_
      refine lv_goto (tgt := 19) hx hb dX7_isHold_15 (by decide) ?_
      cases h
      exact W.zret (ty := .boolean) hx hb hr rfl (fun t ht _ => ⟨rfl, ht⟩) (fun _ hq => by cases hq) dX7_isHold_19
set_option maxRecDepth 100000 in
set_option maxHeartbeats 4000000 in
theorem c_X7_isStuck (l : Launch) (X : gX) (gi : Nat → Int32) (gl : Nat → Int64) (ga : Nat → Nat → Int32) (vS : Nat → Nat → Int32) (vF : Nat → Nat → Nat → Int32) (sN : Nat → Int32) (sF : Nat → Nat → Int32) (a1 : Int32) {o0 : Int32} (h : X7_isStuck vS vF a1 = some o0) : Met l yX7_isStuck (Cond.code yX7_isStuck cX7_isStuck 2 (some .boolean) :: gT) { frames := 0, cells := 0, slots := 0, locals := 0 } (va_Pc [.ref (xAV X (0) 0), .int a1] (gPre X gi gl ga vS vF sN sF)) (k2_QcV (.int o0)) 0 0 (fun _ => False) := by
  refine Met.ofW (cc := cX7_isStuck) (maxL := 2) (ret := (some .boolean)) (by decide) rfl ?_
  intro p e s m args below meth c s₁ B hml hv
  obtain ⟨rfl, hP, hK, hN, hZ⟩ := hv
  have hx := B.exec
  have hb := B.bytes
  have hr := B.returns
  have hts := atoms_spec (ws := (Cond.code yX7_isStuck cX7_isStuck 2 (some .boolean) :: gT)) B.pre
  have hT : ∀ w ∈ gT, w.before _ s = true := fun w hw => hts w (List.mem_cons_of_mem _ hw)
  have hown : s.vm.findClass RX7 = some m.cls := findClass_of_methodNamed B.named
  have hlocks := B.notSynchronized
  have hS : va_S (gA X) s.heap s.heap [] := va_S.rf
  have hl := lv_entry ([.ref (xAV X (0) 0), .int a1]) (n := 2) (Nat.le_of_ble_eq_true rfl)
  rw [lg_entry_eq]
  generalize (lg_sl ([.ref (xAV X (0) 0), .int a1]) ++ List.replicate (2 - (lg_sl ([.ref (xAV X (0) 0), .int a1])).length) Slot.unset).toArray = ls at hl ⊢
  have hl : lv_has ls 2 [(0, .ref (xAV X (0) 0)), (1, .int a1)] := hl
  rw [X7_isStuck] at h
  refine lv_iload_n hx hb dX7_isStuck_0 rfl (lv_at hl 1 rfl) ?_
  refine lv_if_lt (tgt := 33) hx hb dX7_isStuck_1 (by decide) (fun c1 => ?_) (fun c1 => ?_)
  · replace h := if_t c1 h
    refine lv_iconst (v := 0) hx hb dX7_isStuck_33 (by decide) ?_
    cases h
    exact W.zret (ty := .boolean) hx hb hr rfl (fun t ht _ => ⟨rfl, ht⟩) (fun _ hq => by cases hq) dX7_isStuck_34
  · replace h := if_f c1 h
    refine lv_iload_n hx hb dX7_isStuck_4 rfl (lv_at hl 1 rfl) ?_
    refine lv_aload_n hx hb dX7_isStuck_5 rfl (lv_at hl 0 rfl) ?_
    refine rg_V_people (q := (0)) hx hb hT hown hK hP (by decide : 0 < 4) w_82 dX7_isStuck_6 ?_
    refine lv_icmp_ge (tgt := 33) hx hb dX7_isStuck_9 (by decide) (fun c9 => ?_) (fun c9 => ?_)
    · replace h := if_t c9 h
      refine lv_iconst (v := 0) hx hb dX7_isStuck_33 (by decide) ?_
      cases h
      exact W.zret (ty := .boolean) hx hb hr rfl (fun t ht _ => ⟨rfl, ht⟩) (fun _ hq => by cases hq) dX7_isStuck_34
    · replace h := if_f c9 h
      refine lv_iload_n hx hb dX7_isStuck_12 rfl (lv_at hl 1 rfl) ?_
      refine lv_bipush (v := 7) hx hb dX7_isStuck_13 (by decide) ?_
      refine lv_icmp_ge (tgt := 33) hx hb dX7_isStuck_15 (by decide) (fun c15 => ?_) (fun c15 => ?_)
      · replace h := if_t c15 h
        refine lv_iconst (v := 0) hx hb dX7_isStuck_33 (by decide) ?_
        cases h
        exact W.zret (ty := .boolean) hx hb hr rfl (fun t ht _ => ⟨rfl, ht⟩) (fun _ hq => by cases hq) dX7_isStuck_34
      · replace h := if_f c15 h
        refine lv_aload_n hx hb dX7_isStuck_18 rfl (lv_at hl 0 rfl) ?_
        refine rg_V_holds (q := (0)) hx hb hT hown hK hP (by decide : 0 < 4) w_99 dX7_isStuck_19 ?_
        refine lv_iload_n hx hb dX7_isStuck_22 rfl (lv_at hl 1 rfl) ?_
        obtain ⟨hi23, h⟩ := gd_e h
        refine ra_v4 (q := (0)) hx hb hK hP (by decide : 0 < 4) (ib_in hi23) dX7_isStuck_23 ?_
        refine lv_bipush (v := -9) hx hb dX7_isStuck_24 (by decide) ?_
        refine lv_icmp_eq (tgt := 33) hx hb dX7_isStuck_26 (by decide) (fun c26 => ?_) (fun c26 => ?_)
        · replace h := if_t c26 h
          refine lv_iconst (v := 0) hx hb dX7_isStuck_33 (by decide) ?_
          cases h
          exact W.zret (ty := .boolean) hx hb hr rfl (fun t ht _ => ⟨rfl, ht⟩) (fun _ hq => by cases hq) dX7_isStuck_34
        · replace h := if_f c26 h
          refine lv_iconst (v := 1) hx hb dX7_isStuck_29 (by decide) ?_
          refine lv_goto (tgt := 34) hx hb dX7_isStuck_30 (by decide) ?_
          cases h
          exact W.zret (ty := .boolean) hx hb hr rfl (fun t ht _ => ⟨rfl, ht⟩) (fun _ hq => by cases hq) dX7_isStuck_34
set_option maxRecDepth 100000 in
set_option maxHeartbeats 4000000 in
theorem c_X7_isSticky (l : Launch) (X : gX) (gi : Nat → Int32) (gl : Nat → Int64) (ga : Nat → Nat → Int32) (vS : Nat → Nat → Int32) (vF : Nat → Nat → Nat → Int32) (sN : Nat → Int32) (sF : Nat → Nat → Int32) (a1 : Int32) {o0 : Int32} (h : X7_isSticky vS vF a1 = some o0) : Met l yX7_isSticky (Cond.code yX7_isSticky cX7_isSticky 2 (some .boolean) :: gT) { frames := 1, cells := 0, slots := 0, locals := 21 } (va_Pc [.ref (xAV X (0) 0), .int a1] (gPre X gi gl ga vS vF sN sF)) (k2_QcV (.int o0)) 0 0 (fun _ => False) := by
  refine Met.ofW (cc := cX7_isSticky) (maxL := 2) (ret := (some .boolean)) (by decide) rfl ?_
  intro p e s m args below meth c s₁ B hml hv
  obtain ⟨rfl, hP, hK, hN, hZ⟩ := hv
  have hx := B.exec
  have hb := B.bytes
  have hr := B.returns
  have hts := atoms_spec (ws := (Cond.code yX7_isSticky cX7_isSticky 2 (some .boolean) :: gT)) B.pre
  have hT : ∀ w ∈ gT, w.before _ s = true := fun w hw => hts w (List.mem_cons_of_mem _ hw)
  have hown : s.vm.findClass RX7 = some m.cls := findClass_of_methodNamed B.named
  have hlocks := B.notSynchronized
  have hS : va_S (gA X) s.heap s.heap [] := va_S.rf
  have hl := lv_entry ([.ref (xAV X (0) 0), .int a1]) (n := 2) (Nat.le_of_ble_eq_true rfl)
  rw [lg_entry_eq]
  generalize (lg_sl ([.ref (xAV X (0) 0), .int a1]) ++ List.replicate (2 - (lg_sl ([.ref (xAV X (0) 0), .int a1])).length) Slot.unset).toArray = ls at hl ⊢
  have hl : lv_has ls 2 [(0, .ref (xAV X (0) 0)), (1, .int a1)] := hl
  rw [X7_isSticky] at h
  refine lv_iload_n hx hb dX7_isSticky_0 rfl (lv_at hl 1 rfl) ?_
  refine lv_bipush (v := 9) hx hb dX7_isSticky_1 (by decide) ?_
  refine lv_icmp_eq (tgt := 14) hx hb dX7_isSticky_3 (by decide) (fun c3 => ?_) (fun c3 => ?_)
  · replace h := if_t c3 h
    refine lv_iconst (v := 1) hx hb dX7_isSticky_14 (by decide) ?_
    refine lv_goto (tgt := 19) hx hb dX7_isSticky_15 (by decide) ?_
    cases h
    exact W.zret (ty := .boolean) hx hb hr rfl (fun t ht _ => ⟨rfl, ht⟩) (fun _ hq => by cases hq) dX7_isSticky_19
  · replace h := if_f c3 h
    refine lv_aload_n hx hb dX7_isSticky_6 rfl (lv_at hl 0 rfl) ?_
    refine lv_iload_n hx hb dX7_isSticky_7 rfl (lv_at hl 1 rfl) ?_
    obtain ⟨r8, hc8, h⟩ := Option.bind_eq_some_iff.mp h
    refine rcV (As := [.int a1]) (rest := []) ⟨hx, hb, hml, hown, hts⟩ (c_X7_isStuck l X gi gl ga vS vF sN sF a1 hc8) ⟨w_352, w_353, w_354, w_53, w_355⟩ hd_X7_isStuck rfl rfl ⟨(Nat.le_of_ble_eq_true rfl), (Nat.le_of_ble_eq_true rfl)⟩ ⟨Nat.zero_le _, Nat.zero_le _⟩ gPre_blind (va_recv hK hP (ci := 3) rfl (cG_v (by decide : 0 < 4))) (gPre_call hP hK hN hZ hS) rfl rfl hl.1 (Nat.le_of_ble_eq_true rfl) dX7_isSticky_8 ?_
    refine lv_if_eq (tgt := 18) hx hb dX7_isSticky_11 (by decide) (fun c11 => ?_) (fun c11 => ?_)
    · replace h := if_t c11 h
      refine lv_iconst (v := 0) hx hb dX7_isSticky_18 (by decide) ?_
      cases h
      exact W.zret (ty := .boolean) hx hb hr rfl (fun t ht _ => ⟨rfl, ht⟩) (fun _ hq => by cases hq) dX7_isSticky_19
    · replace h := if_f c11 h
      refine lv_iconst (v := 1) hx hb dX7_isSticky_14 (by decide) ?_
      refine lv_goto (tgt := 19) hx hb dX7_isSticky_15 (by decide) ?_
      cases h
      exact W.zret (ty := .boolean) hx hb hr rfl (fun t ht _ => ⟨rfl, ht⟩) (fun _ hq => by cases hq) dX7_isSticky_19
set_option maxRecDepth 100000 in
set_option maxHeartbeats 4000000 in
theorem c_X7_isOf (l : Launch) (X : gX) (gi : Nat → Int32) (gl : Nat → Int64) (ga : Nat → Nat → Int32) (vS : Nat → Nat → Int32) (vF : Nat → Nat → Nat → Int32) (sN : Nat → Int32) (sF : Nat → Nat → Int32) (a1 : Int32) (a2 : Int32) {o0 : Int32} (h : X7_isOf vS vF a1 a2 = some o0) : Met l yX7_isOf (Cond.code yX7_isOf cX7_isOf 3 (some .boolean) :: gT) { frames := 1, cells := 0, slots := 0, locals := 23 } (va_Pc [.ref (xAV X (0) 0), .int a1, .int a2] (gPre X gi gl ga vS vF sN sF)) (k2_QcV (.int o0)) 0 0 (fun _ => False) := by
  refine Met.ofW (cc := cX7_isOf) (maxL := 3) (ret := (some .boolean)) (by decide) rfl ?_
  intro p e s m args below meth c s₁ B hml hv
  obtain ⟨rfl, hP, hK, hN, hZ⟩ := hv
  have hx := B.exec
  have hb := B.bytes
  have hr := B.returns
  have hts := atoms_spec (ws := (Cond.code yX7_isOf cX7_isOf 3 (some .boolean) :: gT)) B.pre
  have hT : ∀ w ∈ gT, w.before _ s = true := fun w hw => hts w (List.mem_cons_of_mem _ hw)
  have hown : s.vm.findClass RX7 = some m.cls := findClass_of_methodNamed B.named
  have hlocks := B.notSynchronized
  have hS : va_S (gA X) s.heap s.heap [] := va_S.rf
  have hl := lv_entry ([.ref (xAV X (0) 0), .int a1, .int a2]) (n := 3) (Nat.le_of_ble_eq_true rfl)
  rw [lg_entry_eq]
  generalize (lg_sl ([.ref (xAV X (0) 0), .int a1, .int a2]) ++ List.replicate (3 - (lg_sl ([.ref (xAV X (0) 0), .int a1, .int a2])).length) Slot.unset).toArray = ls at hl ⊢
  have hl : lv_has ls 3 [(0, .ref (xAV X (0) 0)), (1, .int a1), (2, .int a2)] := hl
  rw [X7_isOf] at h
  refine lv_aload_n hx hb dX7_isOf_0 rfl (lv_at hl 0 rfl) ?_
  refine lv_iload_n hx hb dX7_isOf_1 rfl (lv_at hl 1 rfl) ?_
  obtain ⟨r2, hc2, h⟩ := Option.bind_eq_some_iff.mp h
  refine rcV (As := [.int a1]) (rest := []) ⟨hx, hb, hml, hown, hts⟩ (c_X7_isPerson l X gi gl ga vS vF sN sF a1 hc2) ⟨w_340, w_329, w_330, w_53, w_331⟩ hd_X7_isPerson rfl rfl ⟨(Nat.le_of_ble_eq_true rfl), (Nat.le_of_ble_eq_true rfl)⟩ ⟨Nat.zero_le _, Nat.zero_le _⟩ gPre_blind (va_recv hK hP (ci := 3) rfl (cG_v (by decide : 0 < 4))) (gPre_call hP hK hN hZ hS) rfl rfl hl.1 (Nat.le_of_ble_eq_true rfl) dX7_isOf_2 ?_
  refine lv_if_eq (tgt := 25) hx hb dX7_isOf_5 (by decide) (fun c5 => ?_) (fun c5 => ?_)
  · replace h := if_t c5 h
    refine lv_iconst (v := 0) hx hb dX7_isOf_25 (by decide) ?_
    cases h
    exact W.zret (ty := .boolean) hx hb hr rfl (fun t ht _ => ⟨rfl, ht⟩) (fun _ hq => by cases hq) dX7_isOf_26
  · replace h := if_f c5 h
    refine lv_aload_n hx hb dX7_isOf_8 rfl (lv_at hl 0 rfl) ?_
    refine rg_V_kinds (q := (0)) hx hb hT hown hK hP (by decide : 0 < 4) w_92 dX7_isOf_9 ?_
    refine lv_iload_n hx hb dX7_isOf_12 rfl (lv_at hl 1 rfl) ?_
    obtain ⟨hi13, h⟩ := gd_e h
    refine ra_v0 (q := (0)) hx hb hK hP (by decide : 0 < 4) (ib_in hi13) dX7_isOf_13 ?_
    refine lv_iload_n hx hb dX7_isOf_14 rfl (lv_at hl 2 rfl) ?_
    obtain ⟨r15, hc15, h⟩ := Option.bind_eq_some_iff.mp h
    refine rcS (As := [.int (vF (0) 0 a1.toNatClampNeg), .int a2]) (rest := []) ⟨hx, hb, hml, hown, hts⟩ (c_X2_isA l X gi gl ga vS vF sN sF (vF (0) 0 a1.toNatClampNeg) a2 hc15) ⟨w_370, w_371, w_62, w_372⟩ hd_X2_isA rfl rfl ⟨(Nat.le_of_ble_eq_true rfl), (Nat.le_of_ble_eq_true rfl)⟩ ⟨Nat.zero_le _, Nat.zero_le _⟩ gPre_blind (gPre_call hP hK hN hZ hS) rfl rfl hl.1 (Nat.le_of_ble_eq_true rfl) dX7_isOf_15 ?_
    refine lv_if_eq (tgt := 25) hx hb dX7_isOf_18 (by decide) (fun c18 => ?_) (fun c18 => ?_)
    · replace h := if_t c18 h
      refine lv_iconst (v := 0) hx hb dX7_isOf_25 (by decide) ?_
      cases h
      exact W.zret (ty := .boolean) hx hb hr rfl (fun t ht _ => ⟨rfl, ht⟩) (fun _ hq => by cases hq) dX7_isOf_26
    · replace h := if_f c18 h
      refine lv_iconst (v := 1) hx hb dX7_isOf_21 (by decide) ?_
      refine lv_goto (tgt := 26) hx hb dX7_isOf_22 (by decide) ?_
      cases h
      exact W.zret (ty := .boolean) hx hb hr rfl (fun t ht _ => ⟨rfl, ht⟩) (fun _ hq => by cases hq) dX7_isOf_26
set_option maxRecDepth 100000 in
set_option maxHeartbeats 4000000 in
theorem c_X7_sticksBy (l : Launch) (X : gX) (gi : Nat → Int32) (gl : Nat → Int64) (ga : Nat → Nat → Int32) (vS : Nat → Nat → Int32) (vF : Nat → Nat → Nat → Int32) (sN : Nat → Int32) (sF : Nat → Nat → Int32) (a1 : Int32) (a2 : Int32) {o0 : Int32} (h : X7_sticksBy vS vF a1 a2 = some o0) : Met l yX7_sticksBy (Cond.code yX7_sticksBy cX7_sticksBy 3 (some .boolean) :: gT) { frames := 2, cells := 0, slots := 0, locals := 45 } (va_Pc [.ref (xAV X (0) 0), .int a1, .int a2] (gPre X gi gl ga vS vF sN sF)) (k2_QcV (.int o0)) 0 0 (fun _ => False) := by
  refine Met.ofW (cc := cX7_sticksBy) (maxL := 3) (ret := (some .boolean)) (by decide) rfl ?_
  intro p e s m args below meth c s₁ B hml hv
  obtain ⟨rfl, hP, hK, hN, hZ⟩ := hv
  have hx := B.exec
  have hb := B.bytes
  have hr := B.returns
  have hts := atoms_spec (ws := (Cond.code yX7_sticksBy cX7_sticksBy 3 (some .boolean) :: gT)) B.pre
  have hT : ∀ w ∈ gT, w.before _ s = true := fun w hw => hts w (List.mem_cons_of_mem _ hw)
  have hown : s.vm.findClass RX7 = some m.cls := findClass_of_methodNamed B.named
  have hlocks := B.notSynchronized
  have hS : va_S (gA X) s.heap s.heap [] := va_S.rf
  have hl := lv_entry ([.ref (xAV X (0) 0), .int a1, .int a2]) (n := 3) (Nat.le_of_ble_eq_true rfl)
  rw [lg_entry_eq]
  generalize (lg_sl ([.ref (xAV X (0) 0), .int a1, .int a2]) ++ List.replicate (3 - (lg_sl ([.ref (xAV X (0) 0), .int a1, .int a2])).length) Slot.unset).toArray = ls at hl ⊢
  have hl : lv_has ls 3 [(0, .ref (xAV X (0) 0)), (1, .int a1), (2, .int a2)] := hl
  rw [X7_sticksBy] at h
  refine lv_iload_n hx hb dX7_sticksBy_0 rfl (lv_at hl 2 rfl) ?_
  refine lv_if_ne (tgt := 13) hx hb dX7_sticksBy_1 (by decide) (fun c1 => ?_) (fun c1 => ?_)
  · replace h := if_f c1 h
    refine lv_iconst (v := 1) hx hb dX7_sticksBy_13 (by decide) ?_
    refine lv_goto (tgt := 18) hx hb dX7_sticksBy_14 (by decide) ?_
    cases h
    exact W.zret (ty := .boolean) hx hb hr rfl (fun t ht _ => ⟨rfl, ht⟩) (fun _ hq => by cases hq) dX7_sticksBy_18
  · replace h := if_t c1 h
    refine lv_aload_n hx hb dX7_sticksBy_4 rfl (lv_at hl 0 rfl) ?_
    refine lv_iload_n hx hb dX7_sticksBy_5 rfl (lv_at hl 1 rfl) ?_
    refine lv_iconst (v := 1) hx hb dX7_sticksBy_6 (by decide) ?_
    obtain ⟨r7, hc7, h⟩ := Option.bind_eq_some_iff.mp h
    refine rcV (As := [.int a1, .int (1 : Int32)]) (rest := []) ⟨hx, hb, hml, hown, hts⟩ (c_X7_isOf l X gi gl ga vS vF sN sF a1 (1 : Int32) hc7) ⟨w_380, w_367, w_368, w_53, w_369⟩ hd_X7_isOf rfl rfl ⟨(Nat.le_of_ble_eq_true rfl), (Nat.le_of_ble_eq_true rfl)⟩ ⟨Nat.zero_le _, Nat.zero_le _⟩ gPre_blind (va_recv hK hP (ci := 3) rfl (cG_v (by decide : 0 < 4))) (gPre_call hP hK hN hZ hS) rfl rfl hl.1 (Nat.le_of_ble_eq_true rfl) dX7_sticksBy_7 ?_
    refine lv_if_ne (tgt := 17) hx hb dX7_sticksBy_10 (by decide) (fun c10 => ?_) (fun c10 => ?_)
    · replace h := if_f c10 h
      refine lv_iconst (v := 0) hx hb dX7_sticksBy_17 (by decide) ?_
      cases h
      exact W.zret (ty := .boolean) hx hb hr rfl (fun t ht _ => ⟨rfl, ht⟩) (fun _ hq => by cases hq) dX7_sticksBy_18
    · replace h := if_t c10 h
      refine lv_iconst (v := 1) hx hb dX7_sticksBy_13 (by decide) ?_
      refine lv_goto (tgt := 18) hx hb dX7_sticksBy_14 (by decide) ?_
      cases h
      exact W.zret (ty := .boolean) hx hb hr rfl (fun t ht _ => ⟨rfl, ht⟩) (fun _ hq => by cases hq) dX7_sticksBy_18
set_option maxRecDepth 100000 in
set_option maxHeartbeats 4000000 in
theorem c_X7_daysAgo (l : Launch) (X : gX) (gi : Nat → Int32) (gl : Nat → Int64) (ga : Nat → Nat → Int32) (vS : Nat → Nat → Int32) (vF : Nat → Nat → Nat → Int32) (sN : Nat → Int32) (sF : Nat → Nat → Int32) (a1 : Int32) {o0 : Int32} (h : X7_daysAgo vS vF a1 = some o0) : Met l yX7_daysAgo (Cond.code yX7_daysAgo cX7_daysAgo 2 (some .int) :: gT) { frames := 1, cells := 0, slots := 0, locals := 21 } (va_Pc [.ref (xAV X (0) 0), .int a1] (gPre X gi gl ga vS vF sN sF)) (k2_QcV (.int o0)) 0 0 (fun _ => False) := by
  refine Met.ofW (cc := cX7_daysAgo) (maxL := 2) (ret := (some .int)) (by decide) rfl ?_
  intro p e s m args below meth c s₁ B hml hv
  obtain ⟨rfl, hP, hK, hN, hZ⟩ := hv
  have hx := B.exec
  have hb := B.bytes
  have hr := B.returns
  have hts := atoms_spec (ws := (Cond.code yX7_daysAgo cX7_daysAgo 2 (some .int) :: gT)) B.pre
  have hT : ∀ w ∈ gT, w.before _ s = true := fun w hw => hts w (List.mem_cons_of_mem _ hw)
  have hown : s.vm.findClass RX7 = some m.cls := findClass_of_methodNamed B.named
  have hlocks := B.notSynchronized
  have hS : va_S (gA X) s.heap s.heap [] := va_S.rf
  have hl := lv_entry ([.ref (xAV X (0) 0), .int a1]) (n := 2) (Nat.le_of_ble_eq_true rfl)
  rw [lg_entry_eq]
  generalize (lg_sl ([.ref (xAV X (0) 0), .int a1]) ++ List.replicate (2 - (lg_sl ([.ref (xAV X (0) 0), .int a1])).length) Slot.unset).toArray = ls at hl ⊢
  have hl : lv_has ls 2 [(0, .ref (xAV X (0) 0)), (1, .int a1)] := hl
  rw [X7_daysAgo] at h
  refine lv_aload_n hx hb dX7_daysAgo_0 rfl (lv_at hl 0 rfl) ?_
  refine lv_iload_n hx hb dX7_daysAgo_1 rfl (lv_at hl 1 rfl) ?_
  obtain ⟨r2, hc2, h⟩ := Option.bind_eq_some_iff.mp h
  refine rcV (As := [.int a1]) (rest := []) ⟨hx, hb, hml, hown, hts⟩ (c_X7_isPerson l X gi gl ga vS vF sN sF a1 hc2) ⟨w_340, w_329, w_330, w_53, w_331⟩ hd_X7_isPerson rfl rfl ⟨(Nat.le_of_ble_eq_true rfl), (Nat.le_of_ble_eq_true rfl)⟩ ⟨Nat.zero_le _, Nat.zero_le _⟩ gPre_blind (va_recv hK hP (ci := 3) rfl (cG_v (by decide : 0 < 4))) (gPre_call hP hK hN hZ hS) rfl rfl hl.1 (Nat.le_of_ble_eq_true rfl) dX7_daysAgo_2 ?_
  refine lv_if_eq (tgt := 22) hx hb dX7_daysAgo_5 (by decide) (fun c5 => ?_) (fun c5 => ?_)
  · replace h := if_t c5 h
    refine lv_iconst (v := 0) hx hb dX7_daysAgo_22 (by decide) ?_
    cases h
    exact W.iret hx hb hr (fun t ht _ => ⟨rfl, ht⟩) (fun _ hq => by cases hq) dX7_daysAgo_23
  · replace h := if_f c5 h
    refine lv_aload_n hx hb dX7_daysAgo_8 rfl (lv_at hl 0 rfl) ?_
    refine rg_V_day (q := (0)) hx hb hT hown hK hP (by decide : 0 < 4) w_88 dX7_daysAgo_9 ?_
    refine lv_aload_n hx hb dX7_daysAgo_12 rfl (lv_at hl 0 rfl) ?_
    refine rg_V_laughs (q := (0)) hx hb hT hown hK hP (by decide : 0 < 4) w_98 dX7_daysAgo_13 ?_
    refine lv_iload_n hx hb dX7_daysAgo_16 rfl (lv_at hl 1 rfl) ?_
    obtain ⟨hi17, h⟩ := gd_e h
    refine ra_v3 (q := (0)) hx hb hK hP (by decide : 0 < 4) (ib_in hi17) dX7_daysAgo_17 ?_
    refine lv_isub hx hb dX7_daysAgo_18 ?_
    refine lv_goto (tgt := 23) hx hb dX7_daysAgo_19 (by decide) ?_
    cases h
    exact W.iret hx hb hr (fun t ht _ => ⟨rfl, ht⟩) (fun _ hq => by cases hq) dX7_daysAgo_23
set_option maxRecDepth 100000 in
set_option maxHeartbeats 4000000 in
theorem c_X7_stuckSet (l : Launch) (X : gX) (gi : Nat → Int32) (gl : Nat → Int64) (ga : Nat → Nat → Int32) (vS : Nat → Nat → Int32) (vF : Nat → Nat → Nat → Int32) (sN : Nat → Int32) (sF : Nat → Nat → Int32) {o0 : Int32} (h : X7_stuckSet vS vF = some o0) : Met l yX7_stuckSet (Cond.code yX7_stuckSet cX7_stuckSet 3 (some .int) :: gT) { frames := 1, cells := 0, slots := 0, locals := 21 } (va_Pc [.ref (xAV X (0) 0)] (gPre X gi gl ga vS vF sN sF)) (k2_QcV (.int o0)) 0 0 (fun _ => False) := by
  refine Met.ofW (cc := cX7_stuckSet) (maxL := 3) (ret := (some .int)) (by decide) rfl ?_
  intro p e s m args below meth c s₁ B hml hv
  obtain ⟨rfl, hP, hK, hN, hZ⟩ := hv
  have hx := B.exec
  have hb := B.bytes
  have hr := B.returns
  have hts := atoms_spec (ws := (Cond.code yX7_stuckSet cX7_stuckSet 3 (some .int) :: gT)) B.pre
  have hT : ∀ w ∈ gT, w.before _ s = true := fun w hw => hts w (List.mem_cons_of_mem _ hw)
  have hown : s.vm.findClass RX7 = some m.cls := findClass_of_methodNamed B.named
  have hlocks := B.notSynchronized
  have hS : va_S (gA X) s.heap s.heap [] := va_S.rf
  have hl := lv_entry ([.ref (xAV X (0) 0)]) (n := 3) (Nat.le_of_ble_eq_true rfl)
  rw [lg_entry_eq]
  generalize (lg_sl ([.ref (xAV X (0) 0)]) ++ List.replicate (3 - (lg_sl ([.ref (xAV X (0) 0)])).length) Slot.unset).toArray = ls at hl ⊢
  have hl : lv_has ls 3 [(0, .ref (xAV X (0) 0))] := hl
  have hL4 : ∀ (n4 : Nat) (v1 : Int32) (v2 : Int32) (ls : Array Slot), lv_has ls 3 [(0, .ref (xAV X (0) 0)), (1, .int v1), (2, .int v2)] → X7_stuckSet_4 vS vF n4 v1 v2 = some o0 → W p l e (headSpec (Cond.code yX7_stuckSet cX7_stuckSet 3 (some .int) :: gT) { frames := 1, cells := 0, slots := 0, locals := 21 }).room s m [.ref (xAV X (0) 0)].toArray below meth c s.heap [] 0 0 (MQ below (k2_QcV (.int o0)) [.ref (xAV X (0) 0)].toArray s 0 0 (fun _ => False)) (F0 m 4 ls []) := by
    intro n4
    induction n4 with
    | zero =>
      intro v1 v2 ls hl h
      rw [X7_stuckSet_4] at h
      cases h
    | succ n4 ih4 =>
      intro v1 v2 ls hl h
      rw [X7_stuckSet_4] at h
      refine lv_iload_n hx hb dX7_stuckSet_4 rfl (lv_at hl 2 rfl) ?_
      refine lv_aload_n hx hb dX7_stuckSet_5 rfl (lv_at hl 0 rfl) ?_
      refine rg_V_people (q := (0)) hx hb hT hown hK hP (by decide : 0 < 4) w_82 dX7_stuckSet_6 ?_
      refine lv_icmp_ge (tgt := 32) hx hb dX7_stuckSet_9 (by decide) (fun c9 => ?_) (fun c9 => ?_)
      · replace h := if_t c9 h
        refine lv_iload_n hx hb dX7_stuckSet_32 rfl (lv_at hl 1 rfl) ?_
        cases h
        exact W.iret hx hb hr (fun t ht _ => ⟨rfl, ht⟩) (fun _ hq => by cases hq) dX7_stuckSet_33
      · replace h := if_f c9 h
        refine lv_aload_n hx hb dX7_stuckSet_12 rfl (lv_at hl 0 rfl) ?_
        refine lv_iload_n hx hb dX7_stuckSet_13 rfl (lv_at hl 2 rfl) ?_
        obtain ⟨r14, hc14, h⟩ := Option.bind_eq_some_iff.mp h
        refine rcV (As := [.int v2]) (rest := []) ⟨hx, hb, hml, hown, hts⟩ (c_X7_isStuck l X gi gl ga vS vF sN sF v2 hc14) ⟨w_352, w_353, w_354, w_53, w_355⟩ hd_X7_isStuck rfl rfl ⟨(Nat.le_of_ble_eq_true rfl), (Nat.le_of_ble_eq_true rfl)⟩ ⟨Nat.zero_le _, Nat.zero_le _⟩ gPre_blind (va_recv hK hP (ci := 3) rfl (cG_v (by decide : 0 < 4))) (gPre_call hP hK hN hZ hS) rfl rfl hl.1 (Nat.le_of_ble_eq_true rfl) dX7_stuckSet_14 ?_
        refine lv_if_eq (tgt := 26) hx hb dX7_stuckSet_17 (by decide) (fun c17 => ?_) (fun c17 => ?_)
        · replace h := if_t c17 h
          refine lv_iinc (v := (v2 + (1 : Int32))) (lv' := [(2, .int (v2 + (1 : Int32))), (0, .ref (xAV X (0) 0)), (1, .int v1)]) hx hb dX7_stuckSet_26 hl (k := 2) rfl rfl (by decide) rfl (fun ls hl => ?_)
          refine lv_goto (tgt := 4) hx hb dX7_stuckSet_29 (by decide) ?_
          exact ih4 v1 (v2 + (1 : Int32)) ls (lv_sub hl [1, 2, 0] rfl) h
        · replace h := if_f c17 h
          refine lv_iload_n hx hb dX7_stuckSet_20 rfl (lv_at hl 1 rfl) ?_
          refine lv_iconst (v := 1) hx hb dX7_stuckSet_21 (by decide) ?_
          refine lv_iload_n hx hb dX7_stuckSet_22 rfl (lv_at hl 2 rfl) ?_
          refine lv_ishl hx hb dX7_stuckSet_23 ?_
          refine lv_ior hx hb dX7_stuckSet_24 ?_
          refine lv_istore_n (lv' := [(1, .int (v1 ||| ((1 : Int32) <<< (v2 &&& 31)))), (0, .ref (xAV X (0) 0)), (2, .int v2)]) hx hb dX7_stuckSet_25 rfl hl (by decide) rfl (fun ls hl => ?_)
          refine lv_iinc (v := (v2 + (1 : Int32))) (lv' := [(2, .int (v2 + (1 : Int32))), (1, .int (v1 ||| ((1 : Int32) <<< (v2 &&& 31)))), (0, .ref (xAV X (0) 0))]) hx hb dX7_stuckSet_26 hl (k := 2) rfl rfl (by decide) rfl (fun ls hl => ?_)
          refine lv_goto (tgt := 4) hx hb dX7_stuckSet_29 (by decide) ?_
          exact ih4 (v1 ||| ((1 : Int32) <<< (v2 &&& 31))) (v2 + (1 : Int32)) ls (lv_sub hl [2, 1, 0] rfl) h
  rw [X7_stuckSet] at h
  refine lv_iconst (v := 0) hx hb dX7_stuckSet_0 (by decide) ?_
  refine lv_istore_n (lv' := [(1, .int (0 : Int32)), (0, .ref (xAV X (0) 0))]) hx hb dX7_stuckSet_1 rfl hl (by decide) rfl (fun ls hl => ?_)
  refine lv_iconst (v := 0) hx hb dX7_stuckSet_2 (by decide) ?_
  refine lv_istore_n (lv' := [(2, .int (0 : Int32)), (1, .int (0 : Int32)), (0, .ref (xAV X (0) 0))]) hx hb dX7_stuckSet_3 rfl hl (by decide) rfl (fun ls hl => ?_)
  exact hL4 500 (0 : Int32) (0 : Int32) ls (lv_sub hl [2, 1, 0] rfl) h
set_option maxRecDepth 100000 in
set_option maxHeartbeats 4000000 in
theorem c_X7_stuckCount (l : Launch) (X : gX) (gi : Nat → Int32) (gl : Nat → Int64) (ga : Nat → Nat → Int32) (vS : Nat → Nat → Int32) (vF : Nat → Nat → Nat → Int32) (sN : Nat → Int32) (sF : Nat → Nat → Int32) {o0 : Int32} (h : X7_stuckCount vS vF = some o0) : Met l yX7_stuckCount (Cond.code yX7_stuckCount cX7_stuckCount 1 (some .int) :: gT) { frames := 2, cells := 0, slots := 0, locals := 43 } (va_Pc [.ref (xAV X (0) 0)] (gPre X gi gl ga vS vF sN sF)) (k2_QcV (.int o0)) 0 0 (fun _ => False) := by
  refine Met.ofW (cc := cX7_stuckCount) (maxL := 1) (ret := (some .int)) (by decide) rfl ?_
  intro p e s m args below meth c s₁ B hml hv
  obtain ⟨rfl, hP, hK, hN, hZ⟩ := hv
  have hx := B.exec
  have hb := B.bytes
  have hr := B.returns
  have hts := atoms_spec (ws := (Cond.code yX7_stuckCount cX7_stuckCount 1 (some .int) :: gT)) B.pre
  have hT : ∀ w ∈ gT, w.before _ s = true := fun w hw => hts w (List.mem_cons_of_mem _ hw)
  have hown : s.vm.findClass RX7 = some m.cls := findClass_of_methodNamed B.named
  have hlocks := B.notSynchronized
  have hS : va_S (gA X) s.heap s.heap [] := va_S.rf
  have hl := lv_entry ([.ref (xAV X (0) 0)]) (n := 1) (Nat.le_of_ble_eq_true rfl)
  rw [lg_entry_eq]
  generalize (lg_sl ([.ref (xAV X (0) 0)]) ++ List.replicate (1 - (lg_sl ([.ref (xAV X (0) 0)])).length) Slot.unset).toArray = ls at hl ⊢
  have hl : lv_has ls 1 [(0, .ref (xAV X (0) 0))] := hl
  rw [X7_stuckCount] at h
  refine lv_aload_n hx hb dX7_stuckCount_0 rfl (lv_at hl 0 rfl) ?_
  obtain ⟨r1, hc1, h⟩ := Option.bind_eq_some_iff.mp h
  refine rcV (As := []) (rest := []) ⟨hx, hb, hml, hown, hts⟩ (c_X7_stuckSet l X gi gl ga vS vF sN sF hc1) ⟨w_390, w_391, w_392, w_53, w_393⟩ hd_X7_stuckSet rfl rfl ⟨(Nat.le_of_ble_eq_true rfl), (Nat.le_of_ble_eq_true rfl)⟩ ⟨Nat.zero_le _, Nat.zero_le _⟩ gPre_blind (va_recv hK hP (ci := 3) rfl (cG_v (by decide : 0 < 4))) (gPre_call hP hK hN hZ hS) rfl rfl hl.1 (Nat.le_of_ble_eq_true rfl) dX7_stuckCount_1 ?_
  obtain ⟨r4, hc4, h⟩ := Option.bind_eq_some_iff.mp h
  refine rcS (As := [.int r1]) (rest := []) ⟨hx, hb, hml, hown, hts⟩ (c_J6_bitCount_0f7a4 l r1 hc4) ⟨w_356, w_357, w_63, w_358⟩ hd_J6_bitCount_0f7a4 rfl rfl ⟨(Nat.le_of_ble_eq_true rfl), (Nat.le_of_ble_eq_true rfl)⟩ ⟨Nat.zero_le _, Nat.zero_le _⟩ (fun _ _ _ _ h => h) (fun _ _ _ => trivial) rfl rfl hl.1 (Nat.le_of_ble_eq_true rfl) dX7_stuckCount_4 ?_
  cases h
  exact W.iret hx hb hr (fun t ht _ => ⟨rfl, ht⟩) (fun _ hq => by cases hq) dX7_stuckCount_7
set_option maxRecDepth 100000 in
set_option maxHeartbeats 4000000 in
theorem c_X7_hangers (l : Launch) (X : gX) (gi : Nat → Int32) (gl : Nat → Int64) (ga : Nat → Nat → Int32) (vS : Nat → Nat → Int32) (vF : Nat → Nat → Nat → Int32) (sN : Nat → Int32) (sF : Nat → Nat → Int32) (a1 : Int32) {o0 : Int32} (h : X7_hangers vS vF a1 = some o0) : Met l yX7_hangers (Cond.code yX7_hangers cX7_hangers 4 (some .int) :: gT) { frames := 1, cells := 0, slots := 0, locals := 21 } (va_Pc [.ref (xAV X (0) 0), .int a1] (gPre X gi gl ga vS vF sN sF)) (k2_QcV (.int o0)) 0 0 (fun _ => False) := by
  refine Met.ofW (cc := cX7_hangers) (maxL := 4) (ret := (some .int)) (by decide) rfl ?_
  intro p e s m args below meth c s₁ B hml hv
  obtain ⟨rfl, hP, hK, hN, hZ⟩ := hv
  have hx := B.exec
  have hb := B.bytes
  have hr := B.returns
  have hts := atoms_spec (ws := (Cond.code yX7_hangers cX7_hangers 4 (some .int) :: gT)) B.pre
  have hT : ∀ w ∈ gT, w.before _ s = true := fun w hw => hts w (List.mem_cons_of_mem _ hw)
  have hown : s.vm.findClass RX7 = some m.cls := findClass_of_methodNamed B.named
  have hlocks := B.notSynchronized
  have hS : va_S (gA X) s.heap s.heap [] := va_S.rf
  have hl := lv_entry ([.ref (xAV X (0) 0), .int a1]) (n := 4) (Nat.le_of_ble_eq_true rfl)
  rw [lg_entry_eq]
  generalize (lg_sl ([.ref (xAV X (0) 0), .int a1]) ++ List.replicate (4 - (lg_sl ([.ref (xAV X (0) 0), .int a1])).length) Slot.unset).toArray = ls at hl ⊢
  have hl : lv_has ls 4 [(0, .ref (xAV X (0) 0)), (1, .int a1)] := hl
  have hL4 : ∀ (n4 : Nat) (v1 : Int32) (v2 : Int32) (v3 : Int32) (ls : Array Slot), lv_has ls 4 [(0, .ref (xAV X (0) 0)), (1, .int v1), (2, .int v2), (3, .int v3)] → X7_hangers_4 vS vF n4 v1 v2 v3 = some o0 → W p l e (headSpec (Cond.code yX7_hangers cX7_hangers 4 (some .int) :: gT) { frames := 1, cells := 0, slots := 0, locals := 21 }).room s m [.ref (xAV X (0) 0), .int a1].toArray below meth c s.heap [] 0 0 (MQ below (k2_QcV (.int o0)) [.ref (xAV X (0) 0), .int a1].toArray s 0 0 (fun _ => False)) (F0 m 4 ls []) := by
    intro n4
    induction n4 with
    | zero =>
      intro v1 v2 v3 ls hl h
      rw [X7_hangers_4] at h
      cases h
    | succ n4 ih4 =>
      intro v1 v2 v3 ls hl h
      rw [X7_hangers_4] at h
      refine lv_iload_n hx hb dX7_hangers_4 rfl (lv_at hl 3 rfl) ?_
      refine lv_aload_n hx hb dX7_hangers_5 rfl (lv_at hl 0 rfl) ?_
      refine rg_V_people (q := (0)) hx hb hT hown hK hP (by decide : 0 < 4) w_82 dX7_hangers_6 ?_
      refine lv_icmp_ge (tgt := 42) hx hb dX7_hangers_9 (by decide) (fun c9 => ?_) (fun c9 => ?_)
      · replace h := if_t c9 h
        refine lv_iload_n hx hb dX7_hangers_42 rfl (lv_at hl 2 rfl) ?_
        cases h
        exact W.iret hx hb hr (fun t ht _ => ⟨rfl, ht⟩) (fun _ hq => by cases hq) dX7_hangers_43
      · replace h := if_f c9 h
        refine lv_aload_n hx hb dX7_hangers_12 rfl (lv_at hl 0 rfl) ?_
        refine lv_iload_n hx hb dX7_hangers_13 rfl (lv_at hl 3 rfl) ?_
        obtain ⟨r14, hc14, h⟩ := Option.bind_eq_some_iff.mp h
        refine rcV (As := [.int v3]) (rest := []) ⟨hx, hb, hml, hown, hts⟩ (c_X7_isStuck l X gi gl ga vS vF sN sF v3 hc14) ⟨w_352, w_353, w_354, w_53, w_355⟩ hd_X7_isStuck rfl rfl ⟨(Nat.le_of_ble_eq_true rfl), (Nat.le_of_ble_eq_true rfl)⟩ ⟨Nat.zero_le _, Nat.zero_le _⟩ gPre_blind (va_recv hK hP (ci := 3) rfl (cG_v (by decide : 0 < 4))) (gPre_call hP hK hN hZ hS) rfl rfl hl.1 (Nat.le_of_ble_eq_true rfl) dX7_hangers_14 ?_
        refine lv_if_eq (tgt := 36) hx hb dX7_hangers_17 (by decide) (fun c17 => ?_) (fun c17 => ?_)
        · replace h := if_t c17 h
          refine lv_iinc (v := (v3 + (1 : Int32))) (lv' := [(3, .int (v3 + (1 : Int32))), (0, .ref (xAV X (0) 0)), (1, .int v1), (2, .int v2)]) hx hb dX7_hangers_36 hl (k := 3) rfl rfl (by decide) rfl (fun ls hl => ?_)
          refine lv_goto (tgt := 4) hx hb dX7_hangers_39 (by decide) ?_
          exact ih4 v1 v2 (v3 + (1 : Int32)) ls (lv_sub hl [1, 2, 3, 0] rfl) h
        · replace h := if_f c17 h
          refine lv_aload_n hx hb dX7_hangers_20 rfl (lv_at hl 0 rfl) ?_
          refine rg_V_holds (q := (0)) hx hb hT hown hK hP (by decide : 0 < 4) w_99 dX7_hangers_21 ?_
          refine lv_iload_n hx hb dX7_hangers_24 rfl (lv_at hl 3 rfl) ?_
          obtain ⟨hi25, h⟩ := gd_e h
          refine ra_v4 (q := (0)) hx hb hK hP (by decide : 0 < 4) (ib_in hi25) dX7_hangers_25 ?_
          refine lv_iload_n hx hb dX7_hangers_26 rfl (lv_at hl 1 rfl) ?_
          refine lv_icmp_ne (tgt := 36) hx hb dX7_hangers_27 (by decide) (fun c27 => ?_) (fun c27 => ?_)
          · replace h := if_f c27 h
            refine lv_iinc (v := (v3 + (1 : Int32))) (lv' := [(3, .int (v3 + (1 : Int32))), (0, .ref (xAV X (0) 0)), (1, .int v1), (2, .int v2)]) hx hb dX7_hangers_36 hl (k := 3) rfl rfl (by decide) rfl (fun ls hl => ?_)
            refine lv_goto (tgt := 4) hx hb dX7_hangers_39 (by decide) ?_
            exact ih4 v1 v2 (v3 + (1 : Int32)) ls (lv_sub hl [1, 2, 3, 0] rfl) h
          · replace h := if_t c27 h
            refine lv_iload_n hx hb dX7_hangers_30 rfl (lv_at hl 2 rfl) ?_
            refine lv_iconst (v := 1) hx hb dX7_hangers_31 (by decide) ?_
            refine lv_iload_n hx hb dX7_hangers_32 rfl (lv_at hl 3 rfl) ?_
            refine lv_ishl hx hb dX7_hangers_33 ?_
            refine lv_ior hx hb dX7_hangers_34 ?_
            refine lv_istore_n (lv' := [(2, .int (v2 ||| ((1 : Int32) <<< (v3 &&& 31)))), (0, .ref (xAV X (0) 0)), (1, .int v1), (3, .int v3)]) hx hb dX7_hangers_35 rfl hl (by decide) rfl (fun ls hl => ?_)
            refine lv_iinc (v := (v3 + (1 : Int32))) (lv' := [(3, .int (v3 + (1 : Int32))), (2, .int (v2 ||| ((1 : Int32) <<< (v3 &&& 31)))), (0, .ref (xAV X (0) 0)), (1, .int v1)]) hx hb dX7_hangers_36 hl (k := 3) rfl rfl (by decide) rfl (fun ls hl => ?_)
            refine lv_goto (tgt := 4) hx hb dX7_hangers_39 (by decide) ?_
            exact ih4 v1 (v2 ||| ((1 : Int32) <<< (v3 &&& 31))) (v3 + (1 : Int32)) ls (lv_sub hl [2, 3, 1, 0] rfl) h
  rw [X7_hangers] at h
  refine lv_iconst (v := 0) hx hb dX7_hangers_0 (by decide) ?_
  refine lv_istore_n (lv' := [(2, .int (0 : Int32)), (0, .ref (xAV X (0) 0)), (1, .int a1)]) hx hb dX7_hangers_1 rfl hl (by decide) rfl (fun ls hl => ?_)
  refine lv_iconst (v := 0) hx hb dX7_hangers_2 (by decide) ?_
  refine lv_istore_n (lv' := [(3, .int (0 : Int32)), (2, .int (0 : Int32)), (0, .ref (xAV X (0) 0)), (1, .int a1)]) hx hb dX7_hangers_3 rfl hl (by decide) rfl (fun ls hl => ?_)
  exact hL4 500 a1 (0 : Int32) (0 : Int32) ls (lv_sub hl [2, 3, 1, 0] rfl) h
set_option maxRecDepth 100000 in
set_option maxHeartbeats 4000000 in
theorem c_X7_hangersOnChildren (l : Launch) (X : gX) (gi : Nat → Int32) (gl : Nat → Int64) (ga : Nat → Nat → Int32) (vS : Nat → Nat → Int32) (vF : Nat → Nat → Nat → Int32) (sN : Nat → Int32) (sF : Nat → Nat → Int32) {o0 : Int32} (h : X7_hangersOnChildren vS vF = some o0) : Met l yX7_hangersOnChildren (Cond.code yX7_hangersOnChildren cX7_hangersOnChildren 3 (some .int) :: gT) { frames := 2, cells := 0, slots := 0, locals := 45 } (va_Pc [.ref (xAV X (0) 0)] (gPre X gi gl ga vS vF sN sF)) (k2_QcV (.int o0)) 0 0 (fun _ => False) := by
  refine Met.ofW (cc := cX7_hangersOnChildren) (maxL := 3) (ret := (some .int)) (by decide) rfl ?_
  intro p e s m args below meth c s₁ B hml hv
  obtain ⟨rfl, hP, hK, hN, hZ⟩ := hv
  have hx := B.exec
  have hb := B.bytes
  have hr := B.returns
  have hts := atoms_spec (ws := (Cond.code yX7_hangersOnChildren cX7_hangersOnChildren 3 (some .int) :: gT)) B.pre
  have hT : ∀ w ∈ gT, w.before _ s = true := fun w hw => hts w (List.mem_cons_of_mem _ hw)
  have hown : s.vm.findClass RX7 = some m.cls := findClass_of_methodNamed B.named
  have hlocks := B.notSynchronized
  have hS : va_S (gA X) s.heap s.heap [] := va_S.rf
  have hl := lv_entry ([.ref (xAV X (0) 0)]) (n := 3) (Nat.le_of_ble_eq_true rfl)
  rw [lg_entry_eq]
  generalize (lg_sl ([.ref (xAV X (0) 0)]) ++ List.replicate (3 - (lg_sl ([.ref (xAV X (0) 0)])).length) Slot.unset).toArray = ls at hl ⊢
  have hl : lv_has ls 3 [(0, .ref (xAV X (0) 0))] := hl
  have hL4 : ∀ (n4 : Nat) (v1 : Int32) (v2 : Int32) (ls : Array Slot), lv_has ls 3 [(0, .ref (xAV X (0) 0)), (1, .int v1), (2, .int v2)] → X7_hangersOnChildren_4 vS vF n4 v1 v2 = some o0 → W p l e (headSpec (Cond.code yX7_hangersOnChildren cX7_hangersOnChildren 3 (some .int) :: gT) { frames := 2, cells := 0, slots := 0, locals := 45 }).room s m [.ref (xAV X (0) 0)].toArray below meth c s.heap [] 0 0 (MQ below (k2_QcV (.int o0)) [.ref (xAV X (0) 0)].toArray s 0 0 (fun _ => False)) (F0 m 4 ls []) := by
    intro n4
    induction n4 with
    | zero =>
      intro v1 v2 ls hl h
      rw [X7_hangersOnChildren_4] at h
      cases h
    | succ n4 ih4 =>
      intro v1 v2 ls hl h
      rw [X7_hangersOnChildren_4] at h
      refine lv_iload_n hx hb dX7_hangersOnChildren_4 rfl (lv_at hl 2 rfl) ?_
      refine lv_aload_n hx hb dX7_hangersOnChildren_5 rfl (lv_at hl 0 rfl) ?_
      refine rg_V_people (q := (0)) hx hb hT hown hK hP (by decide : 0 < 4) w_82 dX7_hangersOnChildren_6 ?_
      refine lv_icmp_ge (tgt := 38) hx hb dX7_hangersOnChildren_9 (by decide) (fun c9 => ?_) (fun c9 => ?_)
      · replace h := if_t c9 h
        refine lv_iload_n hx hb dX7_hangersOnChildren_38 rfl (lv_at hl 1 rfl) ?_
        cases h
        exact W.iret hx hb hr (fun t ht _ => ⟨rfl, ht⟩) (fun _ hq => by cases hq) dX7_hangersOnChildren_39
      · replace h := if_f c9 h
        refine lv_aload_n hx hb dX7_hangersOnChildren_12 rfl (lv_at hl 0 rfl) ?_
        refine lv_iload_n hx hb dX7_hangersOnChildren_13 rfl (lv_at hl 2 rfl) ?_
        refine lv_iconst (v := 3) hx hb dX7_hangersOnChildren_14 (by decide) ?_
        obtain ⟨r15, hc15, h⟩ := Option.bind_eq_some_iff.mp h
        refine rcV (As := [.int v2, .int (3 : Int32)]) (rest := []) ⟨hx, hb, hml, hown, hts⟩ (c_X7_isOf l X gi gl ga vS vF sN sF v2 (3 : Int32) hc15) ⟨w_380, w_367, w_368, w_53, w_369⟩ hd_X7_isOf rfl rfl ⟨(Nat.le_of_ble_eq_true rfl), (Nat.le_of_ble_eq_true rfl)⟩ ⟨Nat.zero_le _, Nat.zero_le _⟩ gPre_blind (va_recv hK hP (ci := 3) rfl (cG_v (by decide : 0 < 4))) (gPre_call hP hK hN hZ hS) rfl rfl hl.1 (Nat.le_of_ble_eq_true rfl) dX7_hangersOnChildren_15 ?_
        refine lv_if_eq (tgt := 32) hx hb dX7_hangersOnChildren_18 (by decide) (fun c18 => ?_) (fun c18 => ?_)
        · replace h := if_t c18 h
          refine lv_iinc (v := (v2 + (1 : Int32))) (lv' := [(2, .int (v2 + (1 : Int32))), (0, .ref (xAV X (0) 0)), (1, .int v1)]) hx hb dX7_hangersOnChildren_32 hl (k := 2) rfl rfl (by decide) rfl (fun ls hl => ?_)
          refine lv_goto (tgt := 4) hx hb dX7_hangersOnChildren_35 (by decide) ?_
          exact ih4 v1 (v2 + (1 : Int32)) ls (lv_sub hl [1, 2, 0] rfl) h
        · replace h := if_f c18 h
          refine lv_iload_n hx hb dX7_hangersOnChildren_21 rfl (lv_at hl 1 rfl) ?_
          refine lv_aload_n hx hb dX7_hangersOnChildren_22 rfl (lv_at hl 0 rfl) ?_
          refine lv_iload_n hx hb dX7_hangersOnChildren_23 rfl (lv_at hl 2 rfl) ?_
          obtain ⟨r24, hc24, h⟩ := Option.bind_eq_some_iff.mp h
          refine rcV (As := [.int v2]) (rest := [.int v1]) ⟨hx, hb, hml, hown, hts⟩ (c_X7_hangers l X gi gl ga vS vF sN sF v2 hc24) ⟨w_399, w_400, w_401, w_53, w_402⟩ hd_X7_hangers rfl rfl ⟨(Nat.le_of_ble_eq_true rfl), (Nat.le_of_ble_eq_true rfl)⟩ ⟨Nat.zero_le _, Nat.zero_le _⟩ gPre_blind (va_recv hK hP (ci := 3) rfl (cG_v (by decide : 0 < 4))) (gPre_call hP hK hN hZ hS) rfl rfl hl.1 (Nat.le_of_ble_eq_true rfl) dX7_hangersOnChildren_24 ?_
          obtain ⟨r27, hc27, h⟩ := Option.bind_eq_some_iff.mp h
          refine rcS (As := [.int r24]) (rest := [.int v1]) ⟨hx, hb, hml, hown, hts⟩ (c_J6_bitCount_0f7a4 l r24 hc27) ⟨w_356, w_357, w_63, w_358⟩ hd_J6_bitCount_0f7a4 rfl rfl ⟨(Nat.le_of_ble_eq_true rfl), (Nat.le_of_ble_eq_true rfl)⟩ ⟨Nat.zero_le _, Nat.zero_le _⟩ (fun _ _ _ _ h => h) (fun _ _ _ => trivial) rfl rfl hl.1 (Nat.le_of_ble_eq_true rfl) dX7_hangersOnChildren_27 ?_
          refine lv_iadd hx hb dX7_hangersOnChildren_30 ?_
          refine lv_istore_n (lv' := [(1, .int (v1 + r27)), (0, .ref (xAV X (0) 0)), (2, .int v2)]) hx hb dX7_hangersOnChildren_31 rfl hl (by decide) rfl (fun ls hl => ?_)
          refine lv_iinc (v := (v2 + (1 : Int32))) (lv' := [(2, .int (v2 + (1 : Int32))), (1, .int (v1 + r27)), (0, .ref (xAV X (0) 0))]) hx hb dX7_hangersOnChildren_32 hl (k := 2) rfl rfl (by decide) rfl (fun ls hl => ?_)
          refine lv_goto (tgt := 4) hx hb dX7_hangersOnChildren_35 (by decide) ?_
          exact ih4 (v1 + r27) (v2 + (1 : Int32)) ls (lv_sub hl [2, 1, 0] rfl) h
  rw [X7_hangersOnChildren] at h
  refine lv_iconst (v := 0) hx hb dX7_hangersOnChildren_0 (by decide) ?_
  refine lv_istore_n (lv' := [(1, .int (0 : Int32)), (0, .ref (xAV X (0) 0))]) hx hb dX7_hangersOnChildren_1 rfl hl (by decide) rfl (fun ls hl => ?_)
  refine lv_iconst (v := 0) hx hb dX7_hangersOnChildren_2 (by decide) ?_
  refine lv_istore_n (lv' := [(2, .int (0 : Int32)), (1, .int (0 : Int32)), (0, .ref (xAV X (0) 0))]) hx hb dX7_hangersOnChildren_3 rfl hl (by decide) rfl (fun ls hl => ?_)
  exact hL4 500 (0 : Int32) (0 : Int32) ls (lv_sub hl [2, 1, 0] rfl) h
set_option maxRecDepth 100000 in
set_option maxHeartbeats 4000000 in
theorem c_X7_chain (l : Launch) (X : gX) (gi : Nat → Int32) (gl : Nat → Int64) (ga : Nat → Nat → Int32) (vS : Nat → Nat → Int32) (vF : Nat → Nat → Nat → Int32) (sN : Nat → Int32) (sF : Nat → Nat → Int32) (a1 : Int32) {o0 : Int32} (h : X7_chain vS vF a1 = some o0) : Met l yX7_chain (Cond.code yX7_chain cX7_chain 5 (some .int) :: gT) { frames := 1, cells := 0, slots := 0, locals := 21 } (va_Pc [.ref (xAV X (0) 0), .int a1] (gPre X gi gl ga vS vF sN sF)) (k2_QcV (.int o0)) 0 0 (fun _ => False) := by
  refine Met.ofW (cc := cX7_chain) (maxL := 5) (ret := (some .int)) (by decide) rfl ?_
  intro p e s m args below meth c s₁ B hml hv
  obtain ⟨rfl, hP, hK, hN, hZ⟩ := hv
  have hx := B.exec
  have hb := B.bytes
  have hr := B.returns
  have hts := atoms_spec (ws := (Cond.code yX7_chain cX7_chain 5 (some .int) :: gT)) B.pre
  have hT : ∀ w ∈ gT, w.before _ s = true := fun w hw => hts w (List.mem_cons_of_mem _ hw)
  have hown : s.vm.findClass RX7 = some m.cls := findClass_of_methodNamed B.named
  have hlocks := B.notSynchronized
  have hS : va_S (gA X) s.heap s.heap [] := va_S.rf
  have hl := lv_entry ([.ref (xAV X (0) 0), .int a1]) (n := 5) (Nat.le_of_ble_eq_true rfl)
  rw [lg_entry_eq]
  generalize (lg_sl ([.ref (xAV X (0) 0), .int a1]) ++ List.replicate (5 - (lg_sl ([.ref (xAV X (0) 0), .int a1])).length) Slot.unset).toArray = ls at hl ⊢
  have hl : lv_has ls 5 [(0, .ref (xAV X (0) 0)), (1, .int a1)] := hl
  have hL7 : ∀ (n7 : Nat) (v2 : Int32) (v3 : Int32) (v4 : Int32) (ls : Array Slot), lv_has ls 5 [(0, .ref (xAV X (0) 0)), (2, .int v2), (3, .int v3), (4, .int v4)] → X7_chain_7 vS vF n7 v2 v3 v4 = some o0 → W p l e (headSpec (Cond.code yX7_chain cX7_chain 5 (some .int) :: gT) { frames := 1, cells := 0, slots := 0, locals := 21 }).room s m [.ref (xAV X (0) 0), .int a1].toArray below meth c s.heap [] 0 0 (MQ below (k2_QcV (.int o0)) [.ref (xAV X (0) 0), .int a1].toArray s 0 0 (fun _ => False)) (F0 m 7 ls []) := by
    intro n7
    induction n7 with
    | zero =>
      intro v2 v3 v4 ls hl h
      rw [X7_chain_7] at h
      cases h
    | succ n7 ih7 =>
      intro v2 v3 v4 ls hl h
      rw [X7_chain_7] at h
      refine lv_iload hx hb dX7_chain_7 (lv_at hl 3 rfl) ?_
      refine lv_bipush (v := 7) hx hb dX7_chain_9 (by decide) ?_
      refine lv_icmp_ge (tgt := 41) hx hb dX7_chain_11 (by decide) (fun c11 => ?_) (fun c11 => ?_)
      · replace h := if_t c11 h
        refine lv_iload_n hx hb dX7_chain_41 rfl (lv_at hl 1 rfl) ?_
        cases h
        exact W.iret hx hb hr (fun t ht _ => ⟨rfl, ht⟩) (fun _ hq => by cases hq) dX7_chain_42
      · replace h := if_f c11 h
        refine lv_aload_n hx hb dX7_chain_14 rfl (lv_at hl 0 rfl) ?_
        refine lv_iload_n hx hb dX7_chain_15 rfl (lv_at hl 2 rfl) ?_
        obtain ⟨r16, hc16, h⟩ := Option.bind_eq_some_iff.mp h
        refine rcV (As := [.int v3]) (rest := []) ⟨hx, hb, hml, hown, hts⟩ (c_X7_isStuck l X gi gl ga vS vF sN sF v3 hc16) ⟨w_352, w_353, w_354, w_53, w_355⟩ hd_X7_isStuck rfl rfl ⟨(Nat.le_of_ble_eq_true rfl), (Nat.le_of_ble_eq_true rfl)⟩ ⟨Nat.zero_le _, Nat.zero_le _⟩ gPre_blind (va_recv hK hP (ci := 3) rfl (cG_v (by decide : 0 < 4))) (gPre_call hP hK hN hZ hS) rfl rfl hl.1 (Nat.le_of_ble_eq_true rfl) dX7_chain_16 ?_
        refine lv_if_eq (tgt := 41) hx hb dX7_chain_19 (by decide) (fun c19 => ?_) (fun c19 => ?_)
        · replace h := if_t c19 h
          refine lv_iload_n hx hb dX7_chain_41 rfl (lv_at hl 1 rfl) ?_
          cases h
          exact W.iret hx hb hr (fun t ht _ => ⟨rfl, ht⟩) (fun _ hq => by cases hq) dX7_chain_42
        · replace h := if_f c19 h
          refine lv_iload_n hx hb dX7_chain_22 rfl (lv_at hl 1 rfl) ?_
          refine lv_iconst (v := 1) hx hb dX7_chain_23 (by decide) ?_
          refine lv_iload_n hx hb dX7_chain_24 rfl (lv_at hl 2 rfl) ?_
          refine lv_ishl hx hb dX7_chain_25 ?_
          refine lv_ior hx hb dX7_chain_26 ?_
          refine lv_istore_n (lv' := [(2, .int (v2 ||| ((1 : Int32) <<< (v3 &&& 31)))), (0, .ref (xAV X (0) 0)), (3, .int v3), (4, .int v4)]) hx hb dX7_chain_27 rfl hl (by decide) rfl (fun ls hl => ?_)
          refine lv_aload_n hx hb dX7_chain_28 rfl (lv_at hl 1 rfl) ?_
          refine rg_V_holds (q := (0)) hx hb hT hown hK hP (by decide : 0 < 4) w_99 dX7_chain_29 ?_
          refine lv_iload_n hx hb dX7_chain_32 rfl (lv_at hl 2 rfl) ?_
          obtain ⟨hi33, h⟩ := gd_e h
          refine ra_v4 (q := (0)) hx hb hK hP (by decide : 0 < 4) (ib_in hi33) dX7_chain_33 ?_
          refine lv_istore_n (lv' := [(3, .int (vF (0) 4 v3.toNatClampNeg)), (2, .int (v2 ||| ((1 : Int32) <<< (v3 &&& 31)))), (0, .ref (xAV X (0) 0)), (4, .int v4)]) hx hb dX7_chain_34 rfl hl (by decide) rfl (fun ls hl => ?_)
          refine lv_iinc (v := (v4 + (1 : Int32))) (lv' := [(4, .int (v4 + (1 : Int32))), (3, .int (vF (0) 4 v3.toNatClampNeg)), (2, .int (v2 ||| ((1 : Int32) <<< (v3 &&& 31)))), (0, .ref (xAV X (0) 0))]) hx hb dX7_chain_35 hl (k := 3) rfl rfl (by decide) rfl (fun ls hl => ?_)
          refine lv_goto (tgt := 7) hx hb dX7_chain_38 (by decide) ?_
          exact ih7 (v2 ||| ((1 : Int32) <<< (v3 &&& 31))) (vF (0) 4 v3.toNatClampNeg) (v4 + (1 : Int32)) ls (lv_sub hl [3, 2, 1, 0] rfl) h
  rw [X7_chain] at h
  refine lv_iconst (v := 0) hx hb dX7_chain_0 (by decide) ?_
  refine lv_istore_n (lv' := [(2, .int (0 : Int32)), (0, .ref (xAV X (0) 0)), (1, .int a1)]) hx hb dX7_chain_1 rfl hl (by decide) rfl (fun ls hl => ?_)
  refine lv_iload_n hx hb dX7_chain_2 rfl (lv_at hl 2 rfl) ?_
  refine lv_istore_n (lv' := [(3, .int a1), (2, .int (0 : Int32)), (0, .ref (xAV X (0) 0)), (1, .int a1)]) hx hb dX7_chain_3 rfl hl (by decide) rfl (fun ls hl => ?_)
  refine lv_iconst (v := 0) hx hb dX7_chain_4 (by decide) ?_
  refine lv_istore (lv' := [(4, .int (0 : Int32)), (3, .int a1), (2, .int (0 : Int32)), (0, .ref (xAV X (0) 0)), (1, .int a1)]) hx hb dX7_chain_5 hl (by decide) rfl (fun ls hl => ?_)
  exact hL7 500 (0 : Int32) a1 (0 : Int32) ls (lv_sub hl [3, 2, 1, 0] rfl) h
set_option maxRecDepth 100000 in
set_option maxHeartbeats 4000000 in
theorem c_X7_depth (l : Launch) (X : gX) (gi : Nat → Int32) (gl : Nat → Int64) (ga : Nat → Nat → Int32) (vS : Nat → Nat → Int32) (vF : Nat → Nat → Nat → Int32) (sN : Nat → Int32) (sF : Nat → Nat → Int32) (a1 : Int32) {o0 : Int32} (h : X7_depth vS vF a1 = some o0) : Met l yX7_depth (Cond.code yX7_depth cX7_depth 2 (some .int) :: gT) { frames := 2, cells := 0, slots := 0, locals := 45 } (va_Pc [.ref (xAV X (0) 0), .int a1] (gPre X gi gl ga vS vF sN sF)) (k2_QcV (.int o0)) 0 0 (fun _ => False) := by
  refine Met.ofW (cc := cX7_depth) (maxL := 2) (ret := (some .int)) (by decide) rfl ?_
  intro p e s m args below meth c s₁ B hml hv
  obtain ⟨rfl, hP, hK, hN, hZ⟩ := hv
  have hx := B.exec
  have hb := B.bytes
  have hr := B.returns
  have hts := atoms_spec (ws := (Cond.code yX7_depth cX7_depth 2 (some .int) :: gT)) B.pre
  have hT : ∀ w ∈ gT, w.before _ s = true := fun w hw => hts w (List.mem_cons_of_mem _ hw)
  have hown : s.vm.findClass RX7 = some m.cls := findClass_of_methodNamed B.named
  have hlocks := B.notSynchronized
  have hS : va_S (gA X) s.heap s.heap [] := va_S.rf
  have hl := lv_entry ([.ref (xAV X (0) 0), .int a1]) (n := 2) (Nat.le_of_ble_eq_true rfl)
  rw [lg_entry_eq]
  generalize (lg_sl ([.ref (xAV X (0) 0), .int a1]) ++ List.replicate (2 - (lg_sl ([.ref (xAV X (0) 0), .int a1])).length) Slot.unset).toArray = ls at hl ⊢
  have hl : lv_has ls 2 [(0, .ref (xAV X (0) 0)), (1, .int a1)] := hl
  rw [X7_depth] at h
  refine lv_aload_n hx hb dX7_depth_0 rfl (lv_at hl 0 rfl) ?_
  refine lv_iload_n hx hb dX7_depth_1 rfl (lv_at hl 1 rfl) ?_
  obtain ⟨r2, hc2, h⟩ := Option.bind_eq_some_iff.mp h
  refine rcV (As := [.int a1]) (rest := []) ⟨hx, hb, hml, hown, hts⟩ (c_X7_chain l X gi gl ga vS vF sN sF a1 hc2) ⟨w_348, w_349, w_350, w_53, w_351⟩ hd_X7_chain rfl rfl ⟨(Nat.le_of_ble_eq_true rfl), (Nat.le_of_ble_eq_true rfl)⟩ ⟨Nat.zero_le _, Nat.zero_le _⟩ gPre_blind (va_recv hK hP (ci := 3) rfl (cG_v (by decide : 0 < 4))) (gPre_call hP hK hN hZ hS) rfl rfl hl.1 (Nat.le_of_ble_eq_true rfl) dX7_depth_2 ?_
  obtain ⟨r5, hc5, h⟩ := Option.bind_eq_some_iff.mp h
  refine rcS (As := [.int r2]) (rest := []) ⟨hx, hb, hml, hown, hts⟩ (c_J6_bitCount_0f7a4 l r2 hc5) ⟨w_356, w_357, w_63, w_358⟩ hd_J6_bitCount_0f7a4 rfl rfl ⟨(Nat.le_of_ble_eq_true rfl), (Nat.le_of_ble_eq_true rfl)⟩ ⟨Nat.zero_le _, Nat.zero_le _⟩ (fun _ _ _ _ h => h) (fun _ _ _ => trivial) rfl rfl hl.1 (Nat.le_of_ble_eq_true rfl) dX7_depth_5 ?_
  cases h
  exact W.iret hx hb hr (fun t ht _ => ⟨rfl, ht⟩) (fun _ hq => by cases hq) dX7_depth_8
set_option maxRecDepth 100000 in
set_option maxHeartbeats 4000000 in
theorem c_X7_deepest (l : Launch) (X : gX) (gi : Nat → Int32) (gl : Nat → Int64) (ga : Nat → Nat → Int32) (vS : Nat → Nat → Int32) (vF : Nat → Nat → Nat → Int32) (sN : Nat → Int32) (sF : Nat → Nat → Int32) {o0 : Int32} (h : X7_deepest vS vF = some o0) : Met l yX7_deepest (Cond.code yX7_deepest cX7_deepest 3 (some .int) :: gT) { frames := 2, cells := 0, slots := 0, locals := 45 } (va_Pc [.ref (xAV X (0) 0)] (gPre X gi gl ga vS vF sN sF)) (k2_QcV (.int o0)) 0 0 (fun _ => False) := by
  refine Met.ofW (cc := cX7_deepest) (maxL := 3) (ret := (some .int)) (by decide) rfl ?_
  intro p e s m args below meth c s₁ B hml hv
  obtain ⟨rfl, hP, hK, hN, hZ⟩ := hv
  have hx := B.exec
  have hb := B.bytes
  have hr := B.returns
  have hts := atoms_spec (ws := (Cond.code yX7_deepest cX7_deepest 3 (some .int) :: gT)) B.pre
  have hT : ∀ w ∈ gT, w.before _ s = true := fun w hw => hts w (List.mem_cons_of_mem _ hw)
  have hown : s.vm.findClass RX7 = some m.cls := findClass_of_methodNamed B.named
  have hlocks := B.notSynchronized
  have hS : va_S (gA X) s.heap s.heap [] := va_S.rf
  have hl := lv_entry ([.ref (xAV X (0) 0)]) (n := 3) (Nat.le_of_ble_eq_true rfl)
  rw [lg_entry_eq]
  generalize (lg_sl ([.ref (xAV X (0) 0)]) ++ List.replicate (3 - (lg_sl ([.ref (xAV X (0) 0)])).length) Slot.unset).toArray = ls at hl ⊢
  have hl : lv_has ls 3 [(0, .ref (xAV X (0) 0))] := hl
  have hL4 : ∀ (n4 : Nat) (v1 : Int32) (v2 : Int32) (ls : Array Slot), lv_has ls 3 [(0, .ref (xAV X (0) 0)), (1, .int v1), (2, .int v2)] → X7_deepest_4 vS vF n4 v1 v2 = some o0 → W p l e (headSpec (Cond.code yX7_deepest cX7_deepest 3 (some .int) :: gT) { frames := 2, cells := 0, slots := 0, locals := 45 }).room s m [.ref (xAV X (0) 0)].toArray below meth c s.heap [] 0 0 (MQ below (k2_QcV (.int o0)) [.ref (xAV X (0) 0)].toArray s 0 0 (fun _ => False)) (F0 m 4 ls []) := by
    intro n4
    induction n4 with
    | zero =>
      intro v1 v2 ls hl h
      rw [X7_deepest_4] at h
      cases h
    | succ n4 ih4 =>
      intro v1 v2 ls hl h
      rw [X7_deepest_4] at h
      refine lv_iload_n hx hb dX7_deepest_4 rfl (lv_at hl 2 rfl) ?_
      refine lv_aload_n hx hb dX7_deepest_5 rfl (lv_at hl 0 rfl) ?_
      refine rg_V_people (q := (0)) hx hb hT hown hK hP (by decide : 0 < 4) w_82 dX7_deepest_6 ?_
      refine lv_icmp_ge (tgt := 31) hx hb dX7_deepest_9 (by decide) (fun c9 => ?_) (fun c9 => ?_)
      · replace h := if_t c9 h
        refine lv_iload_n hx hb dX7_deepest_31 rfl (lv_at hl 1 rfl) ?_
        cases h
        exact W.iret hx hb hr (fun t ht _ => ⟨rfl, ht⟩) (fun _ hq => by cases hq) dX7_deepest_32
      · replace h := if_f c9 h
        refine lv_iload_n hx hb dX7_deepest_12 rfl (lv_at hl 1 rfl) ?_
        refine lv_aload_n hx hb dX7_deepest_13 rfl (lv_at hl 0 rfl) ?_
        refine lv_iload_n hx hb dX7_deepest_14 rfl (lv_at hl 2 rfl) ?_
        obtain ⟨r15, hc15, h⟩ := Option.bind_eq_some_iff.mp h
        refine rcV (As := [.int v2]) (rest := [.int v1]) ⟨hx, hb, hml, hown, hts⟩ (c_X7_chain l X gi gl ga vS vF sN sF v2 hc15) ⟨w_348, w_349, w_350, w_53, w_351⟩ hd_X7_chain rfl rfl ⟨(Nat.le_of_ble_eq_true rfl), (Nat.le_of_ble_eq_true rfl)⟩ ⟨Nat.zero_le _, Nat.zero_le _⟩ gPre_blind (va_recv hK hP (ci := 3) rfl (cG_v (by decide : 0 < 4))) (gPre_call hP hK hN hZ hS) rfl rfl hl.1 (Nat.le_of_ble_eq_true rfl) dX7_deepest_15 ?_
        obtain ⟨r18, hc18, h⟩ := Option.bind_eq_some_iff.mp h
        refine rcS (As := [.int r15]) (rest := [.int v1]) ⟨hx, hb, hml, hown, hts⟩ (c_J6_bitCount_0f7a4 l r15 hc18) ⟨w_356, w_357, w_63, w_358⟩ hd_J6_bitCount_0f7a4 rfl rfl ⟨(Nat.le_of_ble_eq_true rfl), (Nat.le_of_ble_eq_true rfl)⟩ ⟨Nat.zero_le _, Nat.zero_le _⟩ (fun _ _ _ _ h => h) (fun _ _ _ => trivial) rfl rfl hl.1 (Nat.le_of_ble_eq_true rfl) dX7_deepest_18 ?_
        refine va_mmax hx hb (hml.trans hl.1.symm) hown (hT _ w_385) (hT _ w_172) (hT _ w_57) (hT _ w_173) (Nat.le_of_ble_eq_true rfl) (Nat.le_of_ble_eq_true rfl) (Nat.zero_le _) (Nat.zero_le _) dX7_deepest_21 ?_
        refine lv_istore_n (lv' := [(1, .int (if v1 < r18 then r18 else v1)), (0, .ref (xAV X (0) 0)), (2, .int v2)]) hx hb dX7_deepest_24 rfl hl (by decide) rfl (fun ls hl => ?_)
        refine lv_iinc (v := (v2 + (1 : Int32))) (lv' := [(2, .int (v2 + (1 : Int32))), (1, .int (if v1 < r18 then r18 else v1)), (0, .ref (xAV X (0) 0))]) hx hb dX7_deepest_25 hl (k := 2) rfl rfl (by decide) rfl (fun ls hl => ?_)
        refine lv_goto (tgt := 4) hx hb dX7_deepest_28 (by decide) ?_
        exact ih4 (if v1 < r18 then r18 else v1) (v2 + (1 : Int32)) ls (lv_sub hl [2, 1, 0] rfl) h
  rw [X7_deepest] at h
  refine lv_iconst (v := 0) hx hb dX7_deepest_0 (by decide) ?_
  refine lv_istore_n (lv' := [(1, .int (0 : Int32)), (0, .ref (xAV X (0) 0))]) hx hb dX7_deepest_1 rfl hl (by decide) rfl (fun ls hl => ?_)
  refine lv_iconst (v := 0) hx hb dX7_deepest_2 (by decide) ?_
  refine lv_istore_n (lv' := [(2, .int (0 : Int32)), (1, .int (0 : Int32)), (0, .ref (xAV X (0) 0))]) hx hb dX7_deepest_3 rfl hl (by decide) rfl (fun ls hl => ?_)
  exact hL4 500 (0 : Int32) (0 : Int32) ls (lv_sub hl [2, 1, 0] rfl) h
set_option maxRecDepth 100000 in
set_option maxHeartbeats 4000000 in
theorem c_X7_glovedCount (l : Launch) (X : gX) (gi : Nat → Int32) (gl : Nat → Int64) (ga : Nat → Nat → Int32) (vS : Nat → Nat → Int32) (vF : Nat → Nat → Nat → Int32) (sN : Nat → Int32) (sF : Nat → Nat → Int32) {o0 : Int32} (h : X7_glovedCount vS vF = some o0) : Met l yX7_glovedCount (Cond.code yX7_glovedCount cX7_glovedCount 3 (some .int) :: gT) { frames := 2, cells := 0, slots := 0, locals := 45 } (va_Pc [.ref (xAV X (0) 0)] (gPre X gi gl ga vS vF sN sF)) (k2_QcV (.int o0)) 0 0 (fun _ => False) := by
  refine Met.ofW (cc := cX7_glovedCount) (maxL := 3) (ret := (some .int)) (by decide) rfl ?_
  intro p e s m args below meth c s₁ B hml hv
  obtain ⟨rfl, hP, hK, hN, hZ⟩ := hv
  have hx := B.exec
  have hb := B.bytes
  have hr := B.returns
  have hts := atoms_spec (ws := (Cond.code yX7_glovedCount cX7_glovedCount 3 (some .int) :: gT)) B.pre
  have hT : ∀ w ∈ gT, w.before _ s = true := fun w hw => hts w (List.mem_cons_of_mem _ hw)
  have hown : s.vm.findClass RX7 = some m.cls := findClass_of_methodNamed B.named
  have hlocks := B.notSynchronized
  have hS : va_S (gA X) s.heap s.heap [] := va_S.rf
  have hl := lv_entry ([.ref (xAV X (0) 0)]) (n := 3) (Nat.le_of_ble_eq_true rfl)
  rw [lg_entry_eq]
  generalize (lg_sl ([.ref (xAV X (0) 0)]) ++ List.replicate (3 - (lg_sl ([.ref (xAV X (0) 0)])).length) Slot.unset).toArray = ls at hl ⊢
  have hl : lv_has ls 3 [(0, .ref (xAV X (0) 0))] := hl
  have hL4 : ∀ (n4 : Nat) (v1 : Int32) (v2 : Int32) (ls : Array Slot), lv_has ls 3 [(0, .ref (xAV X (0) 0)), (1, .int v1), (2, .int v2)] → X7_glovedCount_4 vS vF n4 v1 v2 = some o0 → W p l e (headSpec (Cond.code yX7_glovedCount cX7_glovedCount 3 (some .int) :: gT) { frames := 2, cells := 0, slots := 0, locals := 45 }).room s m [.ref (xAV X (0) 0)].toArray below meth c s.heap [] 0 0 (MQ below (k2_QcV (.int o0)) [.ref (xAV X (0) 0)].toArray s 0 0 (fun _ => False)) (F0 m 4 ls []) := by
    intro n4
    induction n4 with
    | zero =>
      intro v1 v2 ls hl h
      rw [X7_glovedCount_4] at h
      cases h
    | succ n4 ih4 =>
      intro v1 v2 ls hl h
      rw [X7_glovedCount_4] at h
      refine lv_iload_n hx hb dX7_glovedCount_4 rfl (lv_at hl 2 rfl) ?_
      refine lv_aload_n hx hb dX7_glovedCount_5 rfl (lv_at hl 0 rfl) ?_
      refine rg_V_people (q := (0)) hx hb hT hown hK hP (by decide : 0 < 4) w_82 dX7_glovedCount_6 ?_
      refine lv_icmp_ge (tgt := 30) hx hb dX7_glovedCount_9 (by decide) (fun c9 => ?_) (fun c9 => ?_)
      · replace h := if_t c9 h
        refine lv_iload_n hx hb dX7_glovedCount_30 rfl (lv_at hl 1 rfl) ?_
        cases h
        exact W.iret hx hb hr (fun t ht _ => ⟨rfl, ht⟩) (fun _ hq => by cases hq) dX7_glovedCount_31
      · replace h := if_f c9 h
        refine lv_aload_n hx hb dX7_glovedCount_12 rfl (lv_at hl 0 rfl) ?_
        refine lv_iload_n hx hb dX7_glovedCount_13 rfl (lv_at hl 2 rfl) ?_
        refine lv_iconst (v := 1) hx hb dX7_glovedCount_14 (by decide) ?_
        obtain ⟨r15, hc15, h⟩ := Option.bind_eq_some_iff.mp h
        refine rcV (As := [.int v2, .int (1 : Int32)]) (rest := []) ⟨hx, hb, hml, hown, hts⟩ (c_X7_isOf l X gi gl ga vS vF sN sF v2 (1 : Int32) hc15) ⟨w_380, w_367, w_368, w_53, w_369⟩ hd_X7_isOf rfl rfl ⟨(Nat.le_of_ble_eq_true rfl), (Nat.le_of_ble_eq_true rfl)⟩ ⟨Nat.zero_le _, Nat.zero_le _⟩ gPre_blind (va_recv hK hP (ci := 3) rfl (cG_v (by decide : 0 < 4))) (gPre_call hP hK hN hZ hS) rfl rfl hl.1 (Nat.le_of_ble_eq_true rfl) dX7_glovedCount_15 ?_
        refine lv_if_eq (tgt := 24) hx hb dX7_glovedCount_18 (by decide) (fun c18 => ?_) (fun c18 => ?_)
        · replace h := if_t c18 h
          refine lv_iinc (v := (v2 + (1 : Int32))) (lv' := [(2, .int (v2 + (1 : Int32))), (0, .ref (xAV X (0) 0)), (1, .int v1)]) hx hb dX7_glovedCount_24 hl (k := 2) rfl rfl (by decide) rfl (fun ls hl => ?_)
          refine lv_goto (tgt := 4) hx hb dX7_glovedCount_27 (by decide) ?_
          exact ih4 v1 (v2 + (1 : Int32)) ls (lv_sub hl [1, 2, 0] rfl) h
        · replace h := if_f c18 h
          refine lv_iinc (v := (v1 + (1 : Int32))) (lv' := [(1, .int (v1 + (1 : Int32))), (0, .ref (xAV X (0) 0)), (2, .int v2)]) hx hb dX7_glovedCount_21 hl (k := 1) rfl rfl (by decide) rfl (fun ls hl => ?_)
          refine lv_iinc (v := (v2 + (1 : Int32))) (lv' := [(2, .int (v2 + (1 : Int32))), (1, .int (v1 + (1 : Int32))), (0, .ref (xAV X (0) 0))]) hx hb dX7_glovedCount_24 hl (k := 2) rfl rfl (by decide) rfl (fun ls hl => ?_)
          refine lv_goto (tgt := 4) hx hb dX7_glovedCount_27 (by decide) ?_
          exact ih4 (v1 + (1 : Int32)) (v2 + (1 : Int32)) ls (lv_sub hl [2, 1, 0] rfl) h
  rw [X7_glovedCount] at h
  refine lv_iconst (v := 0) hx hb dX7_glovedCount_0 (by decide) ?_
  refine lv_istore_n (lv' := [(1, .int (0 : Int32)), (0, .ref (xAV X (0) 0))]) hx hb dX7_glovedCount_1 rfl hl (by decide) rfl (fun ls hl => ?_)
  refine lv_iconst (v := 0) hx hb dX7_glovedCount_2 (by decide) ?_
  refine lv_istore_n (lv' := [(2, .int (0 : Int32)), (1, .int (0 : Int32)), (0, .ref (xAV X (0) 0))]) hx hb dX7_glovedCount_3 rfl hl (by decide) rfl (fun ls hl => ?_)
  exact hL4 500 (0 : Int32) (0 : Int32) ls (lv_sub hl [2, 1, 0] rfl) h
set_option maxRecDepth 100000 in
set_option maxHeartbeats 4000000 in
theorem c_X7_sight (l : Launch) (X : gX) (gi : Nat → Int32) (gl : Nat → Int64) (ga : Nat → Nat → Int32) (vS : Nat → Nat → Int32) (vF : Nat → Nat → Nat → Int32) (sN : Nat → Int32) (sF : Nat → Nat → Int32) (a1 : Int32) {o0 : Int32} (h : X7_sight vS vF a1 = some o0) : Met l yX7_sight (Cond.code yX7_sight cX7_sight 2 (some .int) :: gT) { frames := 3, cells := 0, slots := 0, locals := 67 } (va_Pc [.ref (xAV X (0) 0), .int a1] (gPre X gi gl ga vS vF sN sF)) (k2_QcV (.int o0)) 0 0 (fun _ => False) := by
  refine Met.ofW (cc := cX7_sight) (maxL := 2) (ret := (some .int)) (by decide) rfl ?_
  intro p e s m args below meth c s₁ B hml hv
  obtain ⟨rfl, hP, hK, hN, hZ⟩ := hv
  have hx := B.exec
  have hb := B.bytes
  have hr := B.returns
  have hts := atoms_spec (ws := (Cond.code yX7_sight cX7_sight 2 (some .int) :: gT)) B.pre
  have hT : ∀ w ∈ gT, w.before _ s = true := fun w hw => hts w (List.mem_cons_of_mem _ hw)
  have hown : s.vm.findClass RX7 = some m.cls := findClass_of_methodNamed B.named
  have hlocks := B.notSynchronized
  have hS : va_S (gA X) s.heap s.heap [] := va_S.rf
  have hl := lv_entry ([.ref (xAV X (0) 0), .int a1]) (n := 2) (Nat.le_of_ble_eq_true rfl)
  rw [lg_entry_eq]
  generalize (lg_sl ([.ref (xAV X (0) 0), .int a1]) ++ List.replicate (2 - (lg_sl ([.ref (xAV X (0) 0), .int a1])).length) Slot.unset).toArray = ls at hl ⊢
  have hl : lv_has ls 2 [(0, .ref (xAV X (0) 0)), (1, .int a1)] := hl
  rw [X7_sight] at h
  refine lv_aload_n hx hb dX7_sight_0 rfl (lv_at hl 0 rfl) ?_
  refine lv_iload_n hx hb dX7_sight_1 rfl (lv_at hl 1 rfl) ?_
  refine lv_iconst (v := 4) hx hb dX7_sight_2 (by decide) ?_
  obtain ⟨r3, hc3, h⟩ := Option.bind_eq_some_iff.mp h
  refine rcV (As := [.int a1, .int (4 : Int32)]) (rest := []) ⟨hx, hb, hml, hown, hts⟩ (c_X7_isOf l X gi gl ga vS vF sN sF a1 (4 : Int32) hc3) ⟨w_380, w_367, w_368, w_53, w_369⟩ hd_X7_isOf rfl rfl ⟨(Nat.le_of_ble_eq_true rfl), (Nat.le_of_ble_eq_true rfl)⟩ ⟨Nat.zero_le _, Nat.zero_le _⟩ gPre_blind (va_recv hK hP (ci := 3) rfl (cG_v (by decide : 0 < 4))) (gPre_call hP hK hN hZ hS) rfl rfl hl.1 (Nat.le_of_ble_eq_true rfl) dX7_sight_3 ?_
  refine lv_if_eq (tgt := 16) hx hb dX7_sight_6 (by decide) (fun c6 => ?_) (fun c6 => ?_)
  · replace h := if_t c6 h
    refine lv_aload_n hx hb dX7_sight_16 rfl (lv_at hl 0 rfl) ?_
    obtain ⟨r17, hc17, h⟩ := Option.bind_eq_some_iff.mp h
    refine rcV (As := []) (rest := []) ⟨hx, hb, hml, hown, hts⟩ (c_X7_stuckCount l X gi gl ga vS vF sN sF hc17) ⟨w_386, w_387, w_388, w_53, w_389⟩ hd_X7_stuckCount rfl rfl ⟨(Nat.le_of_ble_eq_true rfl), (Nat.le_of_ble_eq_true rfl)⟩ ⟨Nat.zero_le _, Nat.zero_le _⟩ gPre_blind (va_recv hK hP (ci := 3) rfl (cG_v (by decide : 0 < 4))) (gPre_call hP hK hN hZ hS) rfl rfl hl.1 (Nat.le_of_ble_eq_true rfl) dX7_sight_17 ?_
    cases h
    exact W.iret hx hb hr (fun t ht _ => ⟨rfl, ht⟩) (fun _ hq => by cases hq) dX7_sight_20
  · replace h := if_f c6 h
    refine lv_aload_n hx hb dX7_sight_9 rfl (lv_at hl 0 rfl) ?_
    obtain ⟨r10, hc10, h⟩ := Option.bind_eq_some_iff.mp h
    refine rcV (As := []) (rest := []) ⟨hx, hb, hml, hown, hts⟩ (c_X7_deepest l X gi gl ga vS vF sN sF hc10) ⟨w_381, w_382, w_383, w_53, w_384⟩ hd_X7_deepest rfl rfl ⟨(Nat.le_of_ble_eq_true rfl), (Nat.le_of_ble_eq_true rfl)⟩ ⟨Nat.zero_le _, Nat.zero_le _⟩ gPre_blind (va_recv hK hP (ci := 3) rfl (cG_v (by decide : 0 < 4))) (gPre_call hP hK hN hZ hS) rfl rfl hl.1 (Nat.le_of_ble_eq_true rfl) dX7_sight_10 ?_
    refine lv_goto (tgt := 20) hx hb dX7_sight_13 (by decide) ?_
    cases h
    exact W.iret hx hb hr (fun t ht _ => ⟨rfl, ht⟩) (fun _ hq => by cases hq) dX7_sight_20
