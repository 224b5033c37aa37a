set_option maxRecDepth 100000 in
set_option maxHeartbeats 4000000 in
theorem c_X3_write (l : Launch) (X : gX) (gi : Nat → Int32) (gl : Nat → Int64) (ga : Nat → Nat → Int32) (vS : Nat → Nat → Int32) (vF : Nat → Nat → Nat → Int32) (sN : Nat → Int32) (sF : Nat → Nat → Int32) (j : Nat) (hj : j < 10) (a1 : Int32) {o_sN : Nat → Int32} {o_sF : Nat → Nat → Int32} (h : X3_write gi ga j a1 sN sF = some (o_sN, o_sF)) : Met l yX3_write (Cond.code yX3_write cX3_write 8 none :: gT) { frames := 2, cells := 0, slots := 0, locals := 45 } (va_Pc [.ref (xA X 5), .int a1, .ref (xAS X j 0)] (gPre X gi gl ga vS vF sN sF)) (wQ none (fun H => va_P X.1 vwCl (cG X gi gl ga vS vF o_sN o_sF) H) (gA X)) 0 0 (gA X) := by
  refine Met.ofW (cc := cX3_write) (maxL := 8) (ret := none) (by decide) rfl ?_
  intro p e s m args below meth c s₁ B hml hv
  obtain ⟨rfl, hP, hK, hN, hZ⟩ := hv
  have hx := B.exec
  have hb := B.bytes
  have hr := B.returns
  have hts := atoms_spec (ws := (Cond.code yX3_write cX3_write 8 none :: gT)) B.pre
  have hT : ∀ w ∈ gT, w.before _ s = true := fun w hw => hts w (List.mem_cons_of_mem _ hw)
  have hown : s.vm.findClass RX3 = some m.cls := findClass_of_methodNamed B.named
  have hlocks := B.notSynchronized
  have hS : va_S (gA X) s.heap s.heap [] := va_S.rf
  have hl := lv_entry ([.ref (xA X 5), .int a1, .ref (xAS X j 0)]) (n := 8) (Nat.le_of_ble_eq_true rfl)
  rw [lg_entry_eq]
  generalize (lg_sl ([.ref (xA X 5), .int a1, .ref (xAS X j 0)]) ++ List.replicate (8 - (lg_sl ([.ref (xA X 5), .int a1, .ref (xAS X j 0)])).length) Slot.unset).toArray = ls at hl ⊢
  have hl : lv_has ls 8 [(0, .ref (xA X 5)), (1, .int a1), (2, .ref (xAS X j 0))] := hl
  have hL14 : ∀ (n14 : Nat) (v3 : Int32) (v4 : Int32) (v5 : Int32) (sN : Nat → Int32) (sF : Nat → Nat → Int32) (H : Heap) (locs : List Loc) (ls : Array Slot), lv_has ls 8 [(0, .ref (xA X 5)), (2, .ref (xAS X j 0)), (3, .int v3), (4, .int v4), (5, .int v5)] → va_P X.1 vwCl (cG X gi gl ga vS vF sN sF) H → va_S (gA X) s.heap H locs → X3_write_14 gi ga j n14 v3 v4 v5 sN sF = some (o_sN, o_sF) → W p l e (headSpec (Cond.code yX3_write cX3_write 8 none :: gT) { frames := 2, cells := 0, slots := 0, locals := 45 }).room s m [.ref (xA X 5), .int a1, .ref (xAS X j 0)].toArray below meth c H locs 0 0 (MQ below (wQ none (fun H => va_P X.1 vwCl (cG X gi gl ga vS vF o_sN o_sF) H) (gA X)) [.ref (xA X 5), .int a1, .ref (xAS X j 0)].toArray s 0 0 (gA X)) (F0 m 14 ls []) := by
    intro n14
    induction n14 with
    | zero =>
      intro v3 v4 v5 sN sF H locs ls hl hP hS h
      rw [X3_write_14] at h
      cases h
    | succ n14 ih14 =>
      intro v3 v4 v5 sN sF H locs ls hl hP hS h
      rw [X3_write_14] at h
      have hL24 : ∀ (n24 : Nat) (v3 : Int32) (v4 : Int32) (v5 : Int32) (v6 : Int32) (sN : Nat → Int32) (sF : Nat → Nat → Int32) (H : Heap) (locs : List Loc) (ls : Array Slot), lv_has ls 8 [(0, .ref (xA X 5)), (2, .ref (xAS X j 0)), (3, .int v3), (4, .int v4), (5, .int v5), (6, .int v6)] → va_P X.1 vwCl (cG X gi gl ga vS vF sN sF) H → va_S (gA X) s.heap H locs → X3_write_24 gi ga j (X3_write_14 gi ga j n14) n24 v3 v4 v5 v6 sN sF = some (o_sN, o_sF) → W p l e (headSpec (Cond.code yX3_write cX3_write 8 none :: gT) { frames := 2, cells := 0, slots := 0, locals := 45 }).room s m [.ref (xA X 5), .int a1, .ref (xAS X j 0)].toArray below meth c H locs 0 0 (MQ below (wQ none (fun H => va_P X.1 vwCl (cG X gi gl ga vS vF o_sN o_sF) H) (gA X)) [.ref (xA X 5), .int a1, .ref (xAS X j 0)].toArray s 0 0 (gA X)) (F0 m 24 ls []) := by
        intro n24
        induction n24 with
        | zero =>
          intro v3 v4 v5 v6 sN sF H locs ls hl hP hS h
          rw [X3_write_24] at h
          cases h
        | succ n24 ih24 =>
          intro v3 v4 v5 v6 sN sF H locs ls hl hP hS h
          rw [X3_write_24] at h
          refine lv_iload hx hb dX3_write_24 (lv_at hl 5 rfl) ?_
          refine lv_bipush (v := 7) hx hb dX3_write_26 (by decide) ?_
          refine lv_icmp_ge (tgt := 93) hx hb dX3_write_28 (by decide) (fun c28 => ?_) (fun c28 => ?_)
          · replace h := if_t c28 h
            refine lv_iinc (v := (v5 + (1 : Int32))) (lv' := [(5, .int (v5 + (1 : Int32))), (0, .ref (xA X 5)), (2, .ref (xAS X j 0)), (3, .int v3), (4, .int v4), (6, .int v6)]) hx hb dX3_write_93 hl (k := 4) rfl rfl (by decide) rfl (fun ls hl => ?_)
            refine lv_goto (tgt := 14) hx hb dX3_write_96 (by decide) ?_
            exact ih14 v3 v4 (v5 + (1 : Int32)) sN sF _ _ ls (lv_sub hl [1, 2, 3, 4, 0] rfl) hP hS h
          · replace h := if_f c28 h
            refine lv_aload_n hx hb dX3_write_31 rfl (lv_at hl 0 rfl) ?_
            refine lv_iload hx hb dX3_write_32 (lv_at hl 5 rfl) ?_
            refine lv_iload_n hx hb dX3_write_34 rfl (lv_at hl 2 rfl) ?_
            obtain ⟨r35, hc35, h⟩ := Option.bind_eq_some_iff.mp h
            refine rcV (As := [.int v6, .int v3]) (rest := []) ⟨hx, hb, hml, hown, hts⟩ (c_X3_canFollow l X gi gl ga vS vF sN sF v6 v3 hc35) ⟨w_626, w_628, w_5, w_55, w_629⟩ hd_X3_canFollow rfl rfl ⟨(Nat.le_of_ble_eq_true rfl), (Nat.le_of_ble_eq_true rfl)⟩ ⟨Nat.zero_le _, Nat.zero_le _⟩ gPre_blind (va_recv hK hP (ci := 1) rfl cG_b5) (gPre_call hP hK hN hZ hS) rfl rfl hl.1 (Nat.le_of_ble_eq_true rfl) dX3_write_35 ?_
            refine lv_if_ne (tgt := 44) hx hb dX3_write_38 (by decide) (fun c38 => ?_) (fun c38 => ?_)
            · replace h := if_f c38 h
              refine lv_aload_n hx hb dX3_write_44 rfl (lv_at hl 0 rfl) ?_
              refine rg_O_behind hx hb hT hown hK hP w_155 dX3_write_45 ?_
              refine lv_iload_n hx hb dX3_write_48 rfl (lv_at hl 2 rfl) ?_
              refine lv_iload hx hb dX3_write_49 (lv_at hl 5 rfl) ?_
              obtain ⟨r51, hc51, h⟩ := Option.bind_eq_some_iff.mp h
              refine rcS (As := [.int v3, .int v6]) (rest := [.ref (xA X 9)]) ⟨hx, hb, hml, hown, hts⟩ (c_X3_with l v3 v6 hc51) ⟨w_630, w_631, w_55, w_632⟩ hd_X3_with rfl rfl ⟨(Nat.le_of_ble_eq_true rfl), (Nat.le_of_ble_eq_true rfl)⟩ ⟨Nat.zero_le _, Nat.zero_le _⟩ (fun _ _ _ _ h => h) (fun _ _ _ => trivial) rfl rfl hl.1 (Nat.le_of_ble_eq_true rfl) dX3_write_51 ?_
              obtain ⟨hi54, h⟩ := gd_e h
              refine ra_g3 hx hb hK hP (ib_in hi54) dX3_write_54 ?_
              refine lv_istore (lv' := [(7, .int (ga 3 r51.toNatClampNeg)), (0, .ref (xA X 5)), (2, .ref (xAS X j 0)), (3, .int v3), (4, .int v4), (5, .int v5), (6, .int v6)]) hx hb dX3_write_55 hl (by decide) rfl (fun ls hl => ?_)
              refine lv_iload hx hb dX3_write_57 (lv_at hl 4 rfl) ?_
              refine lv_iload hx hb dX3_write_59 (lv_at hl 0 rfl) ?_
              refine lv_icmp_ge (tgt := 80) hx hb dX3_write_61 (by decide) (fun c61 => ?_) (fun c61 => ?_)
              · replace h := if_t c61 h
                refine lv_iload hx hb dX3_write_80 (lv_at hl 4 rfl) ?_
                refine lv_iload hx hb dX3_write_82 (lv_at hl 0 rfl) ?_
                refine lv_isub hx hb dX3_write_84 ?_
                refine lv_istore (lv' := [(4, .int (v4 - (ga 3 r51.toNatClampNeg))), (7, .int (ga 3 r51.toNatClampNeg)), (0, .ref (xA X 5)), (2, .ref (xAS X j 0)), (3, .int v3), (5, .int v5), (6, .int v6)]) hx hb dX3_write_85 hl (by decide) rfl (fun ls hl => ?_)
                refine lv_iinc (v := (v6 + (1 : Int32))) (lv' := [(6, .int (v6 + (1 : Int32))), (4, .int (v4 - (ga 3 r51.toNatClampNeg))), (7, .int (ga 3 r51.toNatClampNeg)), (0, .ref (xA X 5)), (2, .ref (xAS X j 0)), (3, .int v3), (5, .int v5)]) hx hb dX3_write_87 hl (k := 6) rfl rfl (by decide) rfl (fun ls hl => ?_)
                refine lv_goto (tgt := 24) hx hb dX3_write_90 (by decide) ?_
                exact ih24 v3 (v4 - (ga 3 r51.toNatClampNeg)) v5 (v6 + (1 : Int32)) sN sF _ _ ls (lv_sub hl [3, 4, 5, 1, 6, 0] rfl) hP hS h
              · replace h := if_f c61 h
                refine lv_aload_n hx hb dX3_write_64 rfl (lv_at hl 2 rfl) ?_
                refine lv_iload hx hb dX3_write_65 (lv_at hl 6 rfl) ?_
                obtain ⟨sN_67, sF_67, hc67, h⟩ := bd2_e h
                refine wcV (As := [.int v6]) (rest := []) ⟨hx, hb, hml, hown, hts⟩ (c_X6_add l X gi gl ga vS vF sN sF j hj v6 hc67) ⟨w_674, w_503, w_504, w_56, w_505⟩ hd_X6_add rfl rfl ⟨(Nat.le_of_ble_eq_true rfl), (Nat.le_of_ble_eq_true rfl)⟩ ⟨Nat.zero_le _, Nat.zero_le _⟩ gPre_blind (va_recv hK hP (ci := 2) rfl (cG_s hj)) (gPre_call hP hK hN hZ hS) hS (fun _ h => h) rfl rfl hl.1 (Nat.le_of_ble_eq_true rfl) dX3_write_67 (fun H locs hP _ hS => ?_)
                have hP : va_P X.1 vwCl (cG X gi gl ga vS vF sN_67 sF_67) H := hP
                refine W.eq (g2 := F0 m 70 ls []) rfl ?_
                refine lv_iload_n hx hb dX3_write_70 rfl (lv_at hl 3 rfl) ?_
                refine lv_iload hx hb dX3_write_71 (lv_at hl 6 rfl) ?_
                obtain ⟨r73, hc73, h⟩ := Option.bind_eq_some_iff.mp h
                refine rcS (As := [.int v3, .int v6]) (rest := []) ⟨hx, hb, hml, hown, hts⟩ (c_X3_with l v3 v6 hc73) ⟨w_630, w_631, w_55, w_632⟩ hd_X3_with rfl rfl ⟨(Nat.le_of_ble_eq_true rfl), (Nat.le_of_ble_eq_true rfl)⟩ ⟨Nat.zero_le _, Nat.zero_le _⟩ (fun _ _ _ _ h => h) (fun _ _ _ => trivial) rfl rfl hl.1 (Nat.le_of_ble_eq_true rfl) dX3_write_73 ?_
                refine lv_istore_n (lv' := [(3, .int r73), (7, .int (ga 3 r51.toNatClampNeg)), (0, .ref (xA X 5)), (2, .ref (xAS X j 0)), (4, .int v4), (5, .int v5), (6, .int v6)]) hx hb dX3_write_76 rfl hl (by decide) rfl (fun ls hl => ?_)
                refine lv_goto (tgt := 93) hx hb dX3_write_77 (by decide) ?_
                refine lv_iinc (v := (v5 + (1 : Int32))) (lv' := [(5, .int (v5 + (1 : Int32))), (3, .int r73), (7, .int (ga 3 r51.toNatClampNeg)), (0, .ref (xA X 5)), (2, .ref (xAS X j 0)), (4, .int v4), (6, .int v6)]) hx hb dX3_write_93 hl (k := 5) rfl rfl (by decide) rfl (fun ls hl => ?_)
                refine lv_goto (tgt := 14) hx hb dX3_write_96 (by decide) ?_
                exact ih14 r73 v4 (v5 + (1 : Int32)) sN_67 sF_67 _ _ ls (lv_sub hl [3, 4, 1, 5, 0] rfl) hP hS h
            · replace h := if_t c38 h
              refine lv_goto (tgt := 87) hx hb dX3_write_41 (by decide) ?_
              refine lv_iinc (v := (v6 + (1 : Int32))) (lv' := [(6, .int (v6 + (1 : Int32))), (0, .ref (xA X 5)), (2, .ref (xAS X j 0)), (3, .int v3), (4, .int v4), (5, .int v5)]) hx hb dX3_write_87 hl (k := 5) rfl rfl (by decide) rfl (fun ls hl => ?_)
              refine lv_goto (tgt := 24) hx hb dX3_write_90 (by decide) ?_
              exact ih24 v3 v4 v5 (v6 + (1 : Int32)) sN sF _ _ ls (lv_sub hl [1, 2, 3, 4, 5, 0] rfl) hP hS h
      refine lv_iload hx hb dX3_write_14 (lv_at hl 4 rfl) ?_
      refine lv_bipush (v := 7) hx hb dX3_write_16 (by decide) ?_
      refine lv_icmp_ge (tgt := 99) hx hb dX3_write_18 (by decide) (fun c18 => ?_) (fun c18 => ?_)
      · replace h := if_t c18 h
        cases h
        exact W.vret hx hb hr (fun t ht _ => ⟨rfl, by rw [ht]; exact hP, hS.F ht⟩) hS.2.2 dX3_write_99
      · replace h := if_f c18 h
        refine lv_iconst (v := 0) hx hb dX3_write_21 (by decide) ?_
        refine lv_istore (lv' := [(6, .int (0 : Int32)), (0, .ref (xA X 5)), (2, .ref (xAS X j 0)), (3, .int v3), (4, .int v4), (5, .int v5)]) hx hb dX3_write_22 hl (by decide) rfl (fun ls hl => ?_)
        exact hL24 500 v3 v4 v5 (0 : Int32) sN sF _ _ ls (lv_sub hl [1, 2, 3, 4, 5, 0] rfl) hP hS h
  rw [X3_write] at h
  refine lv_aload_n hx hb dX3_write_0 rfl (lv_at hl 2 rfl) ?_
  refine lv_iconst (v := 0) hx hb dX3_write_1 (by decide) ?_
  refine lv_iconst (v := 0) hx hb dX3_write_2 (by decide) ?_
  obtain ⟨sN_3, sF_3, hc3, h⟩ := bd2_e h
  refine wcV (As := [.int (0 : Int32), .int (0 : Int32)]) (rest := []) ⟨hx, hb, hml, hown, hts⟩ (c_X6_layOut l X gi gl ga vS vF sN sF j hj (0 : Int32) (0 : Int32) hc3) ⟨w_673, w_232, w_233, w_56, w_234⟩ hd_X6_layOut rfl rfl ⟨(Nat.le_of_ble_eq_true rfl), (Nat.le_of_ble_eq_true rfl)⟩ ⟨Nat.zero_le _, Nat.zero_le _⟩ gPre_blind (va_recv hK hP (ci := 2) rfl (cG_s hj)) (gPre_call hP hK hN hZ hS) hS (fun _ h => h) rfl rfl hl.1 (Nat.le_of_ble_eq_true rfl) dX3_write_3 (fun H locs hP _ hS => ?_)
  have hP : va_P X.1 vwCl (cG X gi gl ga vS vF sN_3 sF_3) H := hP
  refine W.eq (g2 := F0 m 6 ls []) rfl ?_
  refine lv_iconst (v := 0) hx hb dX3_write_6 (by decide) ?_
  refine lv_istore_n (lv' := [(3, .int (0 : Int32)), (0, .ref (xA X 5)), (1, .int a1), (2, .ref (xAS X j 0))]) hx hb dX3_write_7 rfl hl (by decide) rfl (fun ls hl => ?_)
  refine lv_iload_n hx hb dX3_write_8 rfl (lv_at hl 2 rfl) ?_
  refine lv_istore (lv' := [(4, .int a1), (3, .int (0 : Int32)), (0, .ref (xA X 5)), (1, .int a1), (2, .ref (xAS X j 0))]) hx hb dX3_write_9 hl (by decide) rfl (fun ls hl => ?_)
  refine lv_iconst (v := 0) hx hb dX3_write_11 (by decide) ?_
  refine lv_istore (lv' := [(5, .int (0 : Int32)), (4, .int a1), (3, .int (0 : Int32)), (0, .ref (xA X 5)), (1, .int a1), (2, .ref (xAS X j 0))]) hx hb dX3_write_12 hl (by decide) rfl (fun ls hl => ?_)
  exact hL14 500 (0 : Int32) a1 (0 : Int32) sN_3 sF_3 _ _ ls (lv_sub hl [3, 5, 2, 1, 0] rfl) hP hS h
set_option maxRecDepth 100000 in
set_option maxHeartbeats 4000000 in
theorem c_X5_canStand (l : Launch) (X : gX) (gi : Nat → Int32) (gl : Nat → Int64) (ga : Nat → Nat → Int32) (vS : Nat → Nat → Int32) (vF : Nat → Nat → Nat → Int32) (sN : Nat → Int32) (sF : Nat → Nat → Int32) (a0 : Int32) (a1 : Int32) {o0 : Int32} (h : X5_canStand a0 a1 = some o0) : Met l yX5_canStand (Cond.code yX5_canStand cX5_canStand 3 (some .boolean) :: gT) { frames := 1, cells := 0, slots := 0, locals := 21 } (va_Pc [.int a0, .int a1] (gPre X gi gl ga vS vF sN sF)) (k2_QcV (.int o0)) 0 0 (fun _ => False) := by
  refine Met.ofW (cc := cX5_canStand) (maxL := 3) (ret := (some .boolean)) (by decide) rfl ?_
  intro p e s m args below meth c s₁ B hml hv
  obtain ⟨rfl, hP, hK, hN, hZ⟩ := hv
  have hx := B.exec
  have hb := B.bytes
  have hr := B.returns
  have hts := atoms_spec (ws := (Cond.code yX5_canStand cX5_canStand 3 (some .boolean) :: gT)) B.pre
  have hT : ∀ w ∈ gT, w.before _ s = true := fun w hw => hts w (List.mem_cons_of_mem _ hw)
  have hown : s.vm.findClass RX5 = some m.cls := findClass_of_methodNamed B.named
  have hlocks := B.notSynchronized
  have hS : va_S (gA X) s.heap s.heap [] := va_S.rf
  have hl := lv_entry ([.int a0, .int a1]) (n := 3) (Nat.le_of_ble_eq_true rfl)
  rw [lg_entry_eq]
  generalize (lg_sl ([.int a0, .int a1]) ++ List.replicate (3 - (lg_sl ([.int a0, .int a1])).length) Slot.unset).toArray = ls at hl ⊢
  have hl : lv_has ls 3 [(0, .int a0), (1, .int a1)] := hl
  rw [X5_canStand] at h
  refine lv_iload_n hx hb dX5_canStand_0 rfl (lv_at hl 1 rfl) ?_
  refine lv_if_ne (tgt := 19) hx hb dX5_canStand_1 (by decide) (fun c1 => ?_) (fun c1 => ?_)
  · replace h := if_f c1 h
    refine lv_iload_n hx hb dX5_canStand_19 rfl (lv_at hl 0 rfl) ?_
    refine lv_bipush (v := 48) hx hb dX5_canStand_20 (by decide) ?_
    refine lv_isub hx hb dX5_canStand_22 ?_
    refine lv_istore_n (lv' := [(2, .int (a0 - (48 : Int32))), (0, .int a0), (1, .int a1)]) hx hb dX5_canStand_23 rfl hl (by decide) rfl (fun ls hl => ?_)
    refine lv_iload_n hx hb dX5_canStand_24 rfl (lv_at hl 2 rfl) ?_
    refine lv_iconst (v := 1) hx hb dX5_canStand_25 (by decide) ?_
    refine lv_icmp_ne (tgt := 46) hx hb dX5_canStand_26 (by decide) (fun c26 => ?_) (fun c26 => ?_)
    · replace h := if_f c26 h
      refine lv_iload_n hx hb dX5_canStand_46 rfl (lv_at hl 0 rfl) ?_
      refine lv_if_lt (tgt := 60) hx hb dX5_canStand_47 (by decide) (fun c47 => ?_) (fun c47 => ?_)
      · replace h := if_t c47 h
        refine lv_iconst (v := 0) hx hb dX5_canStand_60 (by decide) ?_
        cases h
        exact W.zret (ty := .boolean) hx hb hr rfl (fun t ht _ => ⟨rfl, ht⟩) (fun _ hq => by cases hq) dX5_canStand_61
      · replace h := if_f c47 h
        refine lv_iload_n hx hb dX5_canStand_50 rfl (lv_at hl 0 rfl) ?_
        refine lv_bipush (v := 9) hx hb dX5_canStand_51 (by decide) ?_
        refine lv_icmp_gt (tgt := 60) hx hb dX5_canStand_53 (by decide) (fun c53 => ?_) (fun c53 => ?_)
        · replace h := if_t c53 h
          refine lv_iconst (v := 0) hx hb dX5_canStand_60 (by decide) ?_
          cases h
          exact W.zret (ty := .boolean) hx hb hr rfl (fun t ht _ => ⟨rfl, ht⟩) (fun _ hq => by cases hq) dX5_canStand_61
        · replace h := if_f c53 h
          refine lv_iconst (v := 1) hx hb dX5_canStand_56 (by decide) ?_
          refine lv_goto (tgt := 61) hx hb dX5_canStand_57 (by decide) ?_
          cases h
          exact W.zret (ty := .boolean) hx hb hr rfl (fun t ht _ => ⟨rfl, ht⟩) (fun _ hq => by cases hq) dX5_canStand_61
    · replace h := if_t c26 h
      refine lv_iload_n hx hb dX5_canStand_29 rfl (lv_at hl 0 rfl) ?_
      refine lv_iconst (v := 1) hx hb dX5_canStand_30 (by decide) ?_
      refine lv_icmp_lt (tgt := 44) hx hb dX5_canStand_31 (by decide) (fun c31 => ?_) (fun c31 => ?_)
      · replace h := if_t c31 h
        refine lv_iconst (v := 0) hx hb dX5_canStand_44 (by decide) ?_
        cases h
        exact W.zret (ty := .boolean) hx hb hr rfl (fun t ht _ => ⟨rfl, ht⟩) (fun _ hq => by cases hq) dX5_canStand_45
      · replace h := if_f c31 h
        refine lv_iload_n hx hb dX5_canStand_34 rfl (lv_at hl 0 rfl) ?_
        refine lv_bipush (v := 8) hx hb dX5_canStand_35 (by decide) ?_
        refine lv_icmp_gt (tgt := 44) hx hb dX5_canStand_37 (by decide) (fun c37 => ?_) (fun c37 => ?_)
        · replace h := if_t c37 h
          refine lv_iconst (v := 0) hx hb dX5_canStand_44 (by decide) ?_
          cases h
          exact W.zret (ty := .boolean) hx hb hr rfl (fun t ht _ => ⟨rfl, ht⟩) (fun _ hq => by cases hq) dX5_canStand_45
        · replace h := if_f c37 h
          refine lv_iconst (v := 1) hx hb dX5_canStand_40 (by decide) ?_
          refine lv_goto (tgt := 45) hx hb dX5_canStand_41 (by decide) ?_
          cases h
          exact W.zret (ty := .boolean) hx hb hr rfl (fun t ht _ => ⟨rfl, ht⟩) (fun _ hq => by cases hq) dX5_canStand_45
  · replace h := if_t c1 h
    refine lv_iload_n hx hb dX5_canStand_4 rfl (lv_at hl 0 rfl) ?_
    obtain ⟨r5, hc5, h⟩ := Option.bind_eq_some_iff.mp h
    refine rcS (As := [.int a0]) (rest := []) ⟨hx, hb, hml, hown, hts⟩ (c_X2_ofLetter l X gi gl ga vS vF sN sF a0 hc5) ⟨w_298, w_299, w_62, w_300⟩ hd_X2_ofLetter rfl rfl ⟨(Nat.le_of_ble_eq_true rfl), (Nat.le_of_ble_eq_true rfl)⟩ ⟨Nat.zero_le _, Nat.zero_le _⟩ gPre_blind (gPre_call hP hK hN hZ hS) rfl rfl hl.1 (Nat.le_of_ble_eq_true rfl) dX5_canStand_5 ?_
    refine lv_bipush (v := -9) hx hb dX5_canStand_8 (by decide) ?_
    refine lv_icmp_eq (tgt := 17) hx hb dX5_canStand_10 (by decide) (fun c10 => ?_) (fun c10 => ?_)
    · replace h := if_t c10 h
      refine lv_iconst (v := 0) hx hb dX5_canStand_17 (by decide) ?_
      cases h
      exact W.zret (ty := .boolean) hx hb hr rfl (fun t ht _ => ⟨rfl, ht⟩) (fun _ hq => by cases hq) dX5_canStand_18
    · replace h := if_f c10 h
      refine lv_iconst (v := 1) hx hb dX5_canStand_13 (by decide) ?_
      refine lv_goto (tgt := 18) hx hb dX5_canStand_14 (by decide) ?_
      cases h
      exact W.zret (ty := .boolean) hx hb hr rfl (fun t ht _ => ⟨rfl, ht⟩) (fun _ hq => by cases hq) dX5_canStand_18
set_option maxRecDepth 100000 in
set_option maxHeartbeats 4000000 in
theorem c_X5_faultPlace (l : Launch) (X : gX) (gi : Nat → Int32) (gl : Nat → Int64) (ga : Nat → Nat → Int32) (vS : Nat → Nat → Int32) (vF : Nat → Nat → Nat → Int32) (sN : Nat → Int32) (sF : Nat → Nat → Int32) (j : Nat) (hj : j < 10) {o0 : Int32} (h : X5_faultPlace sN sF j = some o0) : Met l yX5_faultPlace (Cond.code yX5_faultPlace cX5_faultPlace 5 (some .int) :: gT) { frames := 2, cells := 0, slots := 0, locals := 43 } (va_Pc [.ref (xAS X j 0)] (gPre X gi gl ga vS vF sN sF)) (k2_QcV (.int o0)) 0 0 (fun _ => False) := by
  refine Met.ofW (cc := cX5_faultPlace) (maxL := 5) (ret := (some .int)) (by decide) rfl ?_
  intro p e s m args below meth c s₁ B hml hv
  obtain ⟨rfl, hP, hK, hN, hZ⟩ := hv
  have hx := B.exec
  have hb := B.bytes
  have hr := B.returns
  have hts := atoms_spec (ws := (Cond.code yX5_faultPlace cX5_faultPlace 5 (some .int) :: gT)) B.pre
  have hT : ∀ w ∈ gT, w.before _ s = true := fun w hw => hts w (List.mem_cons_of_mem _ hw)
  have hown : s.vm.findClass RX5 = some m.cls := findClass_of_methodNamed B.named
  have hlocks := B.notSynchronized
  have hS : va_S (gA X) s.heap s.heap [] := va_S.rf
  have hl := lv_entry ([.ref (xAS X j 0)]) (n := 5) (Nat.le_of_ble_eq_true rfl)
  rw [lg_entry_eq]
  generalize (lg_sl ([.ref (xAS X j 0)]) ++ List.replicate (5 - (lg_sl ([.ref (xAS X j 0)])).length) Slot.unset).toArray = ls at hl ⊢
  have hl : lv_has ls 5 [(0, .ref (xAS X j 0))] := hl
  have hL6 : ∀ (n6 : Nat) (v1 : Int32) (v2 : Int32) (v3 : Int32) (ls : Array Slot), lv_has ls 5 [(0, .ref (xAS X j 0)), (1, .int v1), (2, .int v2), (3, .int v3)] → X5_faultPlace_6 sN sF j n6 v1 v2 v3 = some o0 → W p l e (headSpec (Cond.code yX5_faultPlace cX5_faultPlace 5 (some .int) :: gT) { frames := 2, cells := 0, slots := 0, locals := 43 }).room s m [.ref (xAS X j 0)].toArray below meth c s.heap [] 0 0 (MQ below (k2_QcV (.int o0)) [.ref (xAS X j 0)].toArray s 0 0 (fun _ => False)) (F0 m 6 ls []) := by
    intro n6
    induction n6 with
    | zero =>
      intro v1 v2 v3 ls hl h
      rw [X5_faultPlace_6] at h
      cases h
    | succ n6 ih6 =>
      intro v1 v2 v3 ls hl h
      rw [X5_faultPlace_6] at h
      have hL36 : ∀ (v1 : Int32) (v2 : Int32) (v3 : Int32) (v4 : Int32) (ls : Array Slot), lv_has ls 5 [(0, .ref (xAS X j 0)), (1, .int v1), (2, .int v2), (3, .int v3), (4, .int v4)] → X5_faultPlace_36 sN sF j (X5_faultPlace_6 sN sF j n6) v1 v2 v3 v4 = some o0 → W p l e (headSpec (Cond.code yX5_faultPlace cX5_faultPlace 5 (some .int) :: gT) { frames := 2, cells := 0, slots := 0, locals := 43 }).room s m [.ref (xAS X j 0)].toArray below meth c s.heap [] 0 0 (MQ below (k2_QcV (.int o0)) [.ref (xAS X j 0)].toArray s 0 0 (fun _ => False)) (F0 m 36 ls []) := by
        intro v1 v2 v3 v4 ls hl h
        rw [X5_faultPlace_36] at h
        refine lv_iload_n hx hb dX5_faultPlace_36 rfl (lv_at hl 2 rfl) ?_
        refine lv_bipush (v := 7) hx hb dX5_faultPlace_37 (by decide) ?_
        refine lv_icmp_eq (tgt := 51) hx hb dX5_faultPlace_39 (by decide) (fun c39 => ?_) (fun c39 => ?_)
        · replace h := if_t c39 h
          refine lv_iload_n hx hb dX5_faultPlace_51 rfl (lv_at hl 3 rfl) ?_
          cases h
          exact W.iret hx hb hr (fun t ht _ => ⟨rfl, ht⟩) (fun _ hq => by cases hq) dX5_faultPlace_52
        · replace h := if_f c39 h
          refine lv_iload hx hb dX5_faultPlace_42 (lv_at hl 4 rfl) ?_
          refine lv_iload_n hx hb dX5_faultPlace_44 rfl (lv_at hl 1 rfl) ?_
          obtain ⟨r45, hc45, h⟩ := Option.bind_eq_some_iff.mp h
          refine rcS (As := [.int v4, .int v1]) (rest := []) ⟨hx, hb, hml, hown, hts⟩ (c_X5_canStand l X gi gl ga vS vF sN sF v4 v1 hc45) ⟨w_295, w_296, w_61, w_297⟩ hd_X5_canStand rfl rfl ⟨(Nat.le_of_ble_eq_true rfl), (Nat.le_of_ble_eq_true rfl)⟩ ⟨Nat.zero_le _, Nat.zero_le _⟩ gPre_blind (gPre_call hP hK hN hZ hS) rfl rfl hl.1 (Nat.le_of_ble_eq_true rfl) dX5_faultPlace_45 ?_
          refine lv_if_ne (tgt := 53) hx hb dX5_faultPlace_48 (by decide) (fun c48 => ?_) (fun c48 => ?_)
          · replace h := if_f c48 h
            refine lv_iinc (v := (v1 + (1 : Int32))) (lv' := [(1, .int (v1 + (1 : Int32))), (0, .ref (xAS X j 0)), (2, .int v2), (3, .int v3), (4, .int v4)]) hx hb dX5_faultPlace_53 hl (k := 1) rfl rfl (by decide) rfl (fun ls hl => ?_)
            refine lv_iload_n hx hb dX5_faultPlace_56 rfl (lv_at hl 0 rfl) ?_
            refine lv_iconst (v := 5) hx hb dX5_faultPlace_57 (by decide) ?_
            refine lv_icmp_ne (tgt := 66) hx hb dX5_faultPlace_58 (by decide) (fun c58 => ?_) (fun c58 => ?_)
            · replace h := if_f c58 h
              refine lv_iinc (v := (v3 + (1 : Int32))) (lv' := [(3, .int (v3 + (1 : Int32))), (1, .int (v1 + (1 : Int32))), (0, .ref (xAS X j 0)), (2, .int v2), (4, .int v4)]) hx hb dX5_faultPlace_66 hl (k := 3) rfl rfl (by decide) rfl (fun ls hl => ?_)
              refine lv_goto (tgt := 6) hx hb dX5_faultPlace_69 (by decide) ?_
              exact ih6 (v1 + (1 : Int32)) v2 (v3 + (1 : Int32)) ls (lv_sub hl [2, 1, 3, 0] rfl) h
            · replace h := if_t c58 h
              refine lv_iconst (v := 0) hx hb dX5_faultPlace_61 (by decide) ?_
              refine lv_istore_n (lv' := [(1, .int (0 : Int32)), (0, .ref (xAS X j 0)), (2, .int v2), (3, .int v3), (4, .int v4)]) hx hb dX5_faultPlace_62 rfl hl (by decide) rfl (fun ls hl => ?_)
              refine lv_iinc (v := (v2 + (1 : Int32))) (lv' := [(2, .int (v2 + (1 : Int32))), (1, .int (0 : Int32)), (0, .ref (xAS X j 0)), (3, .int v3), (4, .int v4)]) hx hb dX5_faultPlace_63 hl (k := 2) rfl rfl (by decide) rfl (fun ls hl => ?_)
              refine lv_iinc (v := (v3 + (1 : Int32))) (lv' := [(3, .int (v3 + (1 : Int32))), (2, .int (v2 + (1 : Int32))), (1, .int (0 : Int32)), (0, .ref (xAS X j 0)), (4, .int v4)]) hx hb dX5_faultPlace_66 hl (k := 3) rfl rfl (by decide) rfl (fun ls hl => ?_)
              refine lv_goto (tgt := 6) hx hb dX5_faultPlace_69 (by decide) ?_
              exact ih6 (0 : Int32) (v2 + (1 : Int32)) (v3 + (1 : Int32)) ls (lv_sub hl [3, 2, 1, 0] rfl) h
          · replace h := if_t c48 h
            refine lv_iload_n hx hb dX5_faultPlace_51 rfl (lv_at hl 3 rfl) ?_
            cases h
            exact W.iret hx hb hr (fun t ht _ => ⟨rfl, ht⟩) (fun _ hq => by cases hq) dX5_faultPlace_52
      refine lv_iload_n hx hb dX5_faultPlace_6 rfl (lv_at hl 3 rfl) ?_
      refine lv_aload_n hx hb dX5_faultPlace_7 rfl (lv_at hl 0 rfl) ?_
      refine rg_S_size (j := j) hx hb hT hown hK hP hj w_179 dX5_faultPlace_8 ?_
      refine lv_icmp_ge (tgt := 72) hx hb dX5_faultPlace_11 (by decide) (fun c11 => ?_) (fun c11 => ?_)
      · replace h := if_t c11 h
        refine lv_iload_n hx hb dX5_faultPlace_72 rfl (lv_at hl 1 rfl) ?_
        refine lv_if_ne (tgt := 81) hx hb dX5_faultPlace_73 (by decide) (fun c73 => ?_) (fun c73 => ?_)
        · replace h := if_f c73 h
          refine lv_aload_n hx hb dX5_faultPlace_81 rfl (lv_at hl 0 rfl) ?_
          refine rg_S_size (j := j) hx hb hT hown hK hP hj w_179 dX5_faultPlace_82 ?_
          cases h
          exact W.iret hx hb hr (fun t ht _ => ⟨rfl, ht⟩) (fun _ hq => by cases hq) dX5_faultPlace_85
        · replace h := if_t c73 h
          refine lv_bipush (v := -9) hx hb dX5_faultPlace_76 (by decide) ?_
          refine lv_goto (tgt := 85) hx hb dX5_faultPlace_78 (by decide) ?_
          cases h
          exact W.iret hx hb hr (fun t ht _ => ⟨rfl, ht⟩) (fun _ hq => by cases hq) dX5_faultPlace_85
      · replace h := if_f c11 h
        refine lv_aload_n hx hb dX5_faultPlace_14 rfl (lv_at hl 0 rfl) ?_
        refine rg_S_cells (j := j) hx hb hT hown hK hP hj w_175 dX5_faultPlace_15 ?_
        refine lv_iload_n hx hb dX5_faultPlace_18 rfl (lv_at hl 3 rfl) ?_
        obtain ⟨hi19, h⟩ := gd_e h
        refine ra_s (j := j) hx hb hK hP hj (ib_in hi19) dX5_faultPlace_19 ?_
        refine lv_istore (lv' := [(4, .int (sF j v3.toNatClampNeg)), (0, .ref (xAS X j 0)), (1, .int v1), (2, .int v2), (3, .int v3)]) hx hb dX5_faultPlace_20 hl (by decide) rfl (fun ls hl => ?_)
        refine lv_iload_n hx hb dX5_faultPlace_22 rfl (lv_at hl 2 rfl) ?_
        refine lv_if_ne (tgt := 36) hx hb dX5_faultPlace_23 (by decide) (fun c23 => ?_) (fun c23 => ?_)
        · replace h := if_f c23 h
          exact hL36 v1 v2 v3 (sF j v3.toNatClampNeg) ls (lv_sub hl [1, 2, 3, 4, 0] rfl) h
        · replace h := if_t c23 h
          refine lv_iload hx hb dX5_faultPlace_26 (lv_at hl 0 rfl) ?_
          refine lv_bipush (v := 32) hx hb dX5_faultPlace_28 (by decide) ?_
          refine lv_icmp_ne (tgt := 36) hx hb dX5_faultPlace_30 (by decide) (fun c30 => ?_) (fun c30 => ?_)
          · replace h := if_f c30 h
            exact hL36 v1 v2 v3 (sF j v3.toNatClampNeg) ls (lv_sub hl [1, 2, 3, 4, 0] rfl) h
          · replace h := if_t c30 h
            refine lv_goto (tgt := 66) hx hb dX5_faultPlace_33 (by decide) ?_
            refine lv_iinc (v := (v3 + (1 : Int32))) (lv' := [(3, .int (v3 + (1 : Int32))), (4, .int (sF j v3.toNatClampNeg)), (0, .ref (xAS X j 0)), (1, .int v1), (2, .int v2)]) hx hb dX5_faultPlace_66 hl (k := 4) rfl rfl (by decide) rfl (fun ls hl => ?_)
            refine lv_goto (tgt := 6) hx hb dX5_faultPlace_69 (by decide) ?_
            exact ih6 v1 v2 (v3 + (1 : Int32)) ls (lv_sub hl [2, 3, 4, 0] rfl) h
  rw [X5_faultPlace] at h
  refine lv_iconst (v := 0) hx hb dX5_faultPlace_0 (by decide) ?_
  refine lv_istore_n (lv' := [(1, .int (0 : Int32)), (0, .ref (xAS X j 0))]) hx hb dX5_faultPlace_1 rfl hl (by decide) rfl (fun ls hl => ?_)
  refine lv_iconst (v := 0) hx hb dX5_faultPlace_2 (by decide) ?_
  refine lv_istore_n (lv' := [(2, .int (0 : Int32)), (1, .int (0 : Int32)), (0, .ref (xAS X j 0))]) hx hb dX5_faultPlace_3 rfl hl (by decide) rfl (fun ls hl => ?_)
  refine lv_iconst (v := 0) hx hb dX5_faultPlace_4 (by decide) ?_
  refine lv_istore_n (lv' := [(3, .int (0 : Int32)), (2, .int (0 : Int32)), (1, .int (0 : Int32)), (0, .ref (xAS X j 0))]) hx hb dX5_faultPlace_5 rfl hl (by decide) rfl (fun ls hl => ?_)
  exact hL6 500 (0 : Int32) (0 : Int32) (0 : Int32) ls (lv_sub hl [3, 2, 1, 0] rfl) h
set_option maxRecDepth 100000 in
set_option maxHeartbeats 4000000 in
theorem c_X5_settle (l : Launch) (X : gX) (gi : Nat → Int32) (gl : Nat → Int64) (ga : Nat → Nat → Int32) (vS : Nat → Nat → Int32) (vF : Nat → Nat → Nat → Int32) (sN : Nat → Int32) (sF : Nat → Nat → Int32) (j : Nat) (hj : j < 10) {o_vS : Nat → Nat → Int32} {o_vF : Nat → Nat → Nat → Int32} (h : X5_settle sN sF j vS vF = some (o_vS, o_vF)) : Met l yX5_settle (Cond.code yX5_settle cX5_settle 6 none :: gT) { frames := 3, cells := 0, slots := 0, locals := 80 } (va_Pc [.ref (xAS X j 0), .ref (xAV X (0) 0)] (gPre X gi gl ga vS vF sN sF)) (wQ none (fun H => va_P X.1 vwCl (cG X gi gl ga o_vS o_vF sN sF) H) (gA X)) 0 0 (gA X) := by
  refine Met.ofW (cc := cX5_settle) (maxL := 6) (ret := none) (by decide) rfl ?_
  intro p e s m args below meth c s₁ B hml hv
  obtain ⟨rfl, hP, hK, hN, hZ⟩ := hv
  have hx := B.exec
  have hb := B.bytes
  have hr := B.returns
  have hts := atoms_spec (ws := (Cond.code yX5_settle cX5_settle 6 none :: gT)) B.pre
  have hT : ∀ w ∈ gT, w.before _ s = true := fun w hw => hts w (List.mem_cons_of_mem _ hw)
  have hown : s.vm.findClass RX5 = some m.cls := findClass_of_methodNamed B.named
  have hlocks := B.notSynchronized
  have hS : va_S (gA X) s.heap s.heap [] := va_S.rf
  have hl := lv_entry ([.ref (xAS X j 0), .ref (xAV X (0) 0)]) (n := 6) (Nat.le_of_ble_eq_true rfl)
  rw [lg_entry_eq]
  generalize (lg_sl ([.ref (xAS X j 0), .ref (xAV X (0) 0)]) ++ List.replicate (6 - (lg_sl ([.ref (xAS X j 0), .ref (xAV X (0) 0)])).length) Slot.unset).toArray = ls at hl ⊢
  have hl : lv_has ls 6 [(0, .ref (xAS X j 0)), (1, .ref (xAV X (0) 0))] := hl
  have hL7 : ∀ (n7 : Nat) (v2 : Int32) (vS : Nat → Nat → Int32) (vF : Nat → Nat → Nat → Int32) (H : Heap) (locs : List Loc) (ls : Array Slot), lv_has ls 6 [(0, .ref (xAS X j 0)), (1, .ref (xAV X (0) 0)), (2, .int v2)] → va_P X.1 vwCl (cG X gi gl ga vS vF sN sF) H → va_S (gA X) s.heap H locs → X5_settle_7 sN sF j n7 v2 vS vF = some (o_vS, o_vF) → W p l e (headSpec (Cond.code yX5_settle cX5_settle 6 none :: gT) { frames := 3, cells := 0, slots := 0, locals := 80 }).room s m [.ref (xAS X j 0), .ref (xAV X (0) 0)].toArray below meth c H locs 0 0 (MQ below (wQ none (fun H => va_P X.1 vwCl (cG X gi gl ga o_vS o_vF sN sF) H) (gA X)) [.ref (xAS X j 0), .ref (xAV X (0) 0)].toArray s 0 0 (gA X)) (F0 m 7 ls []) := by
    intro n7
    induction n7 with
    | zero =>
      intro v2 vS vF H locs ls hl hP hS h
      rw [X5_settle_7] at h
      cases h
    | succ n7 ih7 =>
      intro v2 vS vF H locs ls hl hP hS h
      rw [X5_settle_7] at h
      have hL41 : ∀ (n41 : Nat) (v2 : Int32) (v3 : Int32) (v4 : Int32) (v5 : Int32) (vS : Nat → Nat → Int32) (vF : Nat → Nat → Nat → Int32) (H : Heap) (locs : List Loc) (ls : Array Slot), lv_has ls 6 [(0, .ref (xAS X j 0)), (1, .ref (xAV X (0) 0)), (2, .int v2), (3, .int v3), (4, .int v4), (5, .int v5)] → va_P X.1 vwCl (cG X gi gl ga vS vF sN sF) H → va_S (gA X) s.heap H locs → X5_settle_41 sN sF j (X5_settle_7 sN sF j n7) n41 v2 v3 v4 v5 vS vF = some (o_vS, o_vF) → W p l e (headSpec (Cond.code yX5_settle cX5_settle 6 none :: gT) { frames := 3, cells := 0, slots := 0, locals := 80 }).room s m [.ref (xAS X j 0), .ref (xAV X (0) 0)].toArray below meth c H locs 0 0 (MQ below (wQ none (fun H => va_P X.1 vwCl (cG X gi gl ga o_vS o_vF sN sF) H) (gA X)) [.ref (xAS X j 0), .ref (xAV X (0) 0)].toArray s 0 0 (gA X)) (F0 m 41 ls []) := by
        intro n41
        induction n41 with
        | zero =>
          intro v2 v3 v4 v5 vS vF H locs ls hl hP hS h
          rw [X5_settle_41] at h
          cases h
        | succ n41 ih41 =>
          intro v2 v3 v4 v5 vS vF H locs ls hl hP hS h
          rw [X5_settle_41] at h
          refine lv_iload hx hb dX5_settle_41 (lv_at hl 5 rfl) ?_
          refine lv_iload_n hx hb dX5_settle_43 rfl (lv_at hl 2 rfl) ?_
          refine lv_iconst (v := 5) hx hb dX5_settle_44 (by decide) ?_
          refine lv_iadd hx hb dX5_settle_45 ?_
          refine lv_icmp_ge (tgt := 73) hx hb dX5_settle_46 (by decide) (fun c46 => ?_) (fun c46 => ?_)
          · replace h := if_t c46 h
            refine lv_aload_n hx hb dX5_settle_73 rfl (lv_at hl 1 rfl) ?_
            refine lv_iload_n hx hb dX5_settle_74 rfl (lv_at hl 3 rfl) ?_
            refine lv_aload_n hx hb dX5_settle_75 rfl (lv_at hl 0 rfl) ?_
            refine rg_S_cells (j := j) hx hb hT hown hK hP hj w_175 dX5_settle_76 ?_
            refine lv_iload_n hx hb dX5_settle_79 rfl (lv_at hl 2 rfl) ?_
            refine lv_iconst (v := 1) hx hb dX5_settle_80 (by decide) ?_
            refine lv_iadd hx hb dX5_settle_81 ?_
            obtain ⟨hi82, h⟩ := gd_e h
            refine ra_s (j := j) hx hb hK hP hj (ib_in hi82) dX5_settle_82 ?_
            refine lv_bipush (v := 48) hx hb dX5_settle_83 (by decide) ?_
            refine lv_isub hx hb dX5_settle_85 ?_
            refine lv_iload hx hb dX5_settle_86 (lv_at hl 4 rfl) ?_
            obtain ⟨vS_88, vF_88, hc88, h⟩ := bd2_e h
            refine wcV (As := [.int v3, .int ((sF j (v2 + (1 : Int32)).toNatClampNeg) - (48 : Int32)), .int v4]) (rest := []) ⟨hx, hb, hml, hown, hts⟩ (c_X7_addPerson l X gi gl ga vS vF sN sF v3 ((sF j (v2 + (1 : Int32)).toNatClampNeg) - (48 : Int32)) v4 hc88) ⟨w_310, w_311, w_312, w_53, w_313⟩ hd_X7_addPerson rfl rfl ⟨(Nat.le_of_ble_eq_true rfl), (Nat.le_of_ble_eq_true rfl)⟩ ⟨Nat.zero_le _, Nat.zero_le _⟩ gPre_blind (va_recv hK hP (ci := 3) rfl (cG_v (by decide : 0 < 4))) (gPre_call hP hK hN hZ hS) hS (fun _ h => h) rfl rfl hl.1 (Nat.le_of_ble_eq_true rfl) dX5_settle_88 (fun H locs hP _ hS => ?_)
            have hP : va_P X.1 vwCl (cG X gi gl ga vS_88 vF_88 sN sF) H := hP
            refine W.eq (g2 := F0 m 91 ls []) rfl ?_
            refine lv_iinc (v := (v2 + (1 : Int32))) (lv' := [(2, .int (v2 + (1 : Int32))), (0, .ref (xAS X j 0)), (1, .ref (xAV X (0) 0)), (3, .int v3), (4, .int v4), (5, .int v5)]) hx hb dX5_settle_91 hl (k := 2) rfl rfl (by decide) rfl (fun ls hl => ?_)
            refine lv_goto (tgt := 7) hx hb dX5_settle_94 (by decide) ?_
            exact ih7 (v2 + (1 : Int32)) vS_88 vF_88 _ _ ls (lv_sub hl [1, 2, 0] rfl) hP hS h
          · replace h := if_f c46 h
            refine lv_bipush (v := 10) hx hb dX5_settle_49 (by decide) ?_
            refine lv_iload hx hb dX5_settle_51 (lv_at hl 4 rfl) ?_
            refine lv_imul hx hb dX5_settle_53 ?_
            refine lv_aload_n hx hb dX5_settle_54 rfl (lv_at hl 0 rfl) ?_
            refine rg_S_cells (j := j) hx hb hT hown hK hP hj w_175 dX5_settle_55 ?_
            refine lv_iload hx hb dX5_settle_58 (lv_at hl 5 rfl) ?_
            obtain ⟨hi60, h⟩ := gd_e h
            refine ra_s (j := j) hx hb hK hP hj (ib_in hi60) dX5_settle_60 ?_
            refine lv_iadd hx hb dX5_settle_61 ?_
            refine lv_bipush (v := 48) hx hb dX5_settle_62 (by decide) ?_
            refine lv_isub hx hb dX5_settle_64 ?_
            refine lv_topi (fun v4_65 ev4_65 => ?_)
            replace h := lt_e h ev4_65
            refine lv_istore (lv' := [(4, .int v4_65), (0, .ref (xAS X j 0)), (1, .ref (xAV X (0) 0)), (2, .int v2), (3, .int v3), (5, .int v5)]) hx hb dX5_settle_65 hl (by decide) rfl (fun ls hl => ?_)
            refine lv_iinc (v := (v5 + (1 : Int32))) (lv' := [(5, .int (v5 + (1 : Int32))), (4, .int v4_65), (0, .ref (xAS X j 0)), (1, .ref (xAV X (0) 0)), (2, .int v2), (3, .int v3)]) hx hb dX5_settle_67 hl (k := 5) rfl rfl (by decide) rfl (fun ls hl => ?_)
            refine lv_goto (tgt := 41) hx hb dX5_settle_70 (by decide) ?_
            exact ih41 v2 v3 v4_65 (v5 + (1 : Int32)) vS vF _ _ ls (lv_sub hl [2, 3, 4, 5, 1, 0] rfl) hP hS h
      refine lv_iload_n hx hb dX5_settle_7 rfl (lv_at hl 2 rfl) ?_
      refine lv_iconst (v := 5) hx hb dX5_settle_8 (by decide) ?_
      refine lv_iadd hx hb dX5_settle_9 ?_
      refine lv_aload_n hx hb dX5_settle_10 rfl (lv_at hl 0 rfl) ?_
      refine rg_S_size (j := j) hx hb hT hown hK hP hj w_179 dX5_settle_11 ?_
      refine lv_icmp_gt (tgt := 97) hx hb dX5_settle_14 (by decide) (fun c14 => ?_) (fun c14 => ?_)
      · replace h := if_t c14 h
        refine lv_aload_n hx hb dX5_settle_97 rfl (lv_at hl 1 rfl) ?_
        obtain ⟨vS_98, vF_98, hc98, h⟩ := bd2_e h
        refine wcV (As := []) (rest := []) ⟨hx, hb, hml, hown, hts⟩ (c_X7_startAnew l X gi gl ga vS vF sN sF hc98) ⟨w_314, w_315, w_316, w_53, w_317⟩ hd_X7_startAnew rfl rfl ⟨(Nat.le_of_ble_eq_true rfl), (Nat.le_of_ble_eq_true rfl)⟩ ⟨Nat.zero_le _, Nat.zero_le _⟩ gPre_blind (va_recv hK hP (ci := 3) rfl (cG_v (by decide : 0 < 4))) (gPre_call hP hK hN hZ hS) hS (fun _ h => h) rfl rfl hl.1 (Nat.le_of_ble_eq_true rfl) dX5_settle_98 (fun H locs hP _ hS => ?_)
        have hP : va_P X.1 vwCl (cG X gi gl ga vS_98 vF_98 sN sF) H := hP
        refine W.eq (g2 := F0 m 101 ls []) rfl ?_
        cases h
        exact W.vret hx hb hr (fun t ht _ => ⟨rfl, by rw [ht]; exact hP, hS.F ht⟩) hS.2.2 dX5_settle_101
      · replace h := if_f c14 h
        refine lv_aload_n hx hb dX5_settle_17 rfl (lv_at hl 0 rfl) ?_
        refine rg_S_cells (j := j) hx hb hT hown hK hP hj w_175 dX5_settle_18 ?_
        refine lv_iload_n hx hb dX5_settle_21 rfl (lv_at hl 2 rfl) ?_
        obtain ⟨hi22, h⟩ := gd_e h
        refine ra_s (j := j) hx hb hK hP hj (ib_in hi22) dX5_settle_22 ?_
        obtain ⟨r23, hc23, h⟩ := Option.bind_eq_some_iff.mp h
        refine rcS (As := [.int (sF j v2.toNatClampNeg)]) (rest := []) ⟨hx, hb, hml, hown, hts⟩ (c_X2_ofLetter l X gi gl ga vS vF sN sF (sF j v2.toNatClampNeg) hc23) ⟨w_298, w_299, w_62, w_300⟩ hd_X2_ofLetter rfl rfl ⟨(Nat.le_of_ble_eq_true rfl), (Nat.le_of_ble_eq_true rfl)⟩ ⟨Nat.zero_le _, Nat.zero_le _⟩ gPre_blind (gPre_call hP hK hN hZ hS) rfl rfl hl.1 (Nat.le_of_ble_eq_true rfl) dX5_settle_23 ?_
        refine lv_istore_n (lv' := [(3, .int r23), (0, .ref (xAS X j 0)), (1, .ref (xAV X (0) 0)), (2, .int v2)]) hx hb dX5_settle_26 rfl hl (by decide) rfl (fun ls hl => ?_)
        refine lv_iload_n hx hb dX5_settle_27 rfl (lv_at hl 0 rfl) ?_
        refine lv_bipush (v := -9) hx hb dX5_settle_28 (by decide) ?_
        refine lv_icmp_eq (tgt := 91) hx hb dX5_settle_30 (by decide) (fun c30 => ?_) (fun c30 => ?_)
        · replace h := if_t c30 h
          refine lv_iinc (v := (v2 + (1 : Int32))) (lv' := [(2, .int (v2 + (1 : Int32))), (3, .int r23), (0, .ref (xAS X j 0)), (1, .ref (xAV X (0) 0))]) hx hb dX5_settle_91 hl (k := 3) rfl rfl (by decide) rfl (fun ls hl => ?_)
          refine lv_goto (tgt := 7) hx hb dX5_settle_94 (by decide) ?_
          exact ih7 (v2 + (1 : Int32)) vS vF _ _ ls (lv_sub hl [2, 3, 0] rfl) hP hS h
        · replace h := if_f c30 h
          refine lv_iconst (v := 0) hx hb dX5_settle_33 (by decide) ?_
          refine lv_istore (lv' := [(4, .int (0 : Int32)), (3, .int r23), (0, .ref (xAS X j 0)), (1, .ref (xAV X (0) 0)), (2, .int v2)]) hx hb dX5_settle_34 hl (by decide) rfl (fun ls hl => ?_)
          refine lv_iload_n hx hb dX5_settle_36 rfl (lv_at hl 4 rfl) ?_
          refine lv_iconst (v := 2) hx hb dX5_settle_37 (by decide) ?_
          refine lv_iadd hx hb dX5_settle_38 ?_
          refine lv_istore (lv' := [(5, .int (v2 + (2 : Int32))), (4, .int (0 : Int32)), (3, .int r23), (0, .ref (xAS X j 0)), (1, .ref (xAV X (0) 0)), (2, .int v2)]) hx hb dX5_settle_39 hl (by decide) rfl (fun ls hl => ?_)
          exact hL41 500 v2 r23 (0 : Int32) (v2 + (2 : Int32)) vS vF _ _ ls (lv_sub hl [3, 4, 5, 2, 1, 0] rfl) hP hS h
  rw [X5_settle] at h
  refine lv_aload_n hx hb dX5_settle_0 rfl (lv_at hl 1 rfl) ?_
  refine lv_iconst (v := 0) hx hb dX5_settle_1 (by decide) ?_
  refine rp_V_people (q := (0)) hx hb hT hown hK hP hN hS (by decide : 0 < 4) w_86 dX5_settle_2 (fun H locs hP hS => ?_)
  generalize evS_2 : u2 vS (0) 0 (0 : Int32) = vS_2 at hP
  replace h := lt_g h evS_2
  refine lv_iconst (v := 0) hx hb dX5_settle_5 (by decide) ?_
  refine lv_istore_n (lv' := [(2, .int (0 : Int32)), (0, .ref (xAS X j 0)), (1, .ref (xAV X (0) 0))]) hx hb dX5_settle_6 rfl hl (by decide) rfl (fun ls hl => ?_)
  exact hL7 500 (0 : Int32) vS_2 vF _ _ ls (lv_sub hl [1, 2, 0] rfl) hP hS h
set_option maxRecDepth 100000 in
set_option maxHeartbeats 4000000 in
theorem c_X8_isRow (l : Launch) (a0 : Int32) {o0 : Int32} (h : X8_isRow a0 = some o0) : Met l yX8_isRow (Cond.code yX8_isRow cX8_isRow 1 (some .boolean) :: gT) { frames := 0, cells := 0, slots := 0, locals := 0 } (va_Pc [.int a0] (fun _ => True)) (k2_QcV (.int o0)) 0 0 (fun _ => False) := by
  refine Met.ofW (cc := cX8_isRow) (maxL := 1) (ret := (some .boolean)) (by decide) rfl ?_
  intro p e s m args below meth c s₁ B hml hv
  obtain ⟨rfl, -⟩ := hv
  have hx := B.exec
  have hb := B.bytes
  have hr := B.returns
  have hts := atoms_spec (ws := (Cond.code yX8_isRow cX8_isRow 1 (some .boolean) :: gT)) B.pre
  have hT : ∀ w ∈ gT, w.before _ s = true := fun w hw => hts w (List.mem_cons_of_mem _ hw)
  have hown : s.vm.findClass RX8 = some m.cls := findClass_of_methodNamed B.named
  have hlocks := B.notSynchronized
  have hl := lv_entry ([.int a0]) (n := 1) (Nat.le_of_ble_eq_true rfl)
  rw [lg_entry_eq]
  generalize (lg_sl ([.int a0]) ++ List.replicate (1 - (lg_sl ([.int a0])).length) Slot.unset).toArray = ls at hl ⊢
  have hl : lv_has ls 1 [(0, .int a0)] := hl
  rw [X8_isRow] at h
  refine lv_iload_n hx hb dX8_isRow_0 rfl (lv_at hl 0 rfl) ?_
  refine lv_if_lt (tgt := 14) hx hb dX8_isRow_1 (by decide) (fun c1 => ?_) (fun c1 => ?_)
  · replace h := if_t c1 h
    refine lv_iconst (v := 0) hx hb dX8_isRow_14 (by decide) ?_
    cases h
    exact W.zret (ty := .boolean) hx hb hr rfl (fun t ht _ => ⟨rfl, ht⟩) (fun _ hq => by cases hq) dX8_isRow_15
  · replace h := if_f c1 h
    refine lv_iload_n hx hb dX8_isRow_4 rfl (lv_at hl 0 rfl) ?_
    refine lv_bipush (v := 6) hx hb dX8_isRow_5 (by decide) ?_
    refine lv_icmp_ge (tgt := 14) hx hb dX8_isRow_7 (by decide) (fun c7 => ?_) (fun c7 => ?_)
    · replace h := if_t c7 h
      refine lv_iconst (v := 0) hx hb dX8_isRow_14 (by decide) ?_
      cases h
      exact W.zret (ty := .boolean) hx hb hr rfl (fun t ht _ => ⟨rfl, ht⟩) (fun _ hq => by cases hq) dX8_isRow_15
    · replace h := if_f c7 h
      refine lv_iconst (v := 1) hx hb dX8_isRow_10 (by decide) ?_
      refine lv_goto (tgt := 15) hx hb dX8_isRow_11 (by decide) ?_
      cases h
      exact W.zret (ty := .boolean) hx hb hr rfl (fun t ht _ => ⟨rfl, ht⟩) (fun _ hq => by cases hq) dX8_isRow_15
set_option maxRecDepth 100000 in
set_option maxHeartbeats 4000000 in
theorem c_X8_isText (l : Launch) (a0 : Int32) {o0 : Int32} (h : X8_isText a0 = some o0) : Met l yX8_isText (Cond.code yX8_isText cX8_isText 1 (some .boolean) :: gT) { frames := 0, cells := 0, slots := 0, locals := 0 } (va_Pc [.int a0] (fun _ => True)) (k2_QcV (.int o0)) 0 0 (fun _ => False) := by
  refine Met.ofW (cc := cX8_isText) (maxL := 1) (ret := (some .boolean)) (by decide) rfl ?_
  intro p e s m args below meth c s₁ B hml hv
  obtain ⟨rfl, -⟩ := hv
  have hx := B.exec
  have hb := B.bytes
  have hr := B.returns
  have hts := atoms_spec (ws := (Cond.code yX8_isText cX8_isText 1 (some .boolean) :: gT)) B.pre
  have hT : ∀ w ∈ gT, w.before _ s = true := fun w hw => hts w (List.mem_cons_of_mem _ hw)
  have hown : s.vm.findClass RX8 = some m.cls := findClass_of_methodNamed B.named
  have hlocks := B.notSynchronized
  have hl := lv_entry ([.int a0]) (n := 1) (Nat.le_of_ble_eq_true rfl)
  rw [lg_entry_eq]
  generalize (lg_sl ([.int a0]) ++ List.replicate (1 - (lg_sl ([.int a0])).length) Slot.unset).toArray = ls at hl ⊢
  have hl : lv_has ls 1 [(0, .int a0)] := hl
  rw [X8_isText] at h
  refine lv_iload_n hx hb dX8_isText_0 rfl (lv_at hl 0 rfl) ?_
  refine lv_if_lt (tgt := 13) hx hb dX8_isText_1 (by decide) (fun c1 => ?_) (fun c1 => ?_)
  · replace h := if_t c1 h
    refine lv_iconst (v := 0) hx hb dX8_isText_13 (by decide) ?_
    cases h
    exact W.zret (ty := .boolean) hx hb hr rfl (fun t ht _ => ⟨rfl, ht⟩) (fun _ hq => by cases hq) dX8_isText_14
  · replace h := if_f c1 h
    refine lv_iload_n hx hb dX8_isText_4 rfl (lv_at hl 0 rfl) ?_
    refine lv_iconst (v := 4) hx hb dX8_isText_5 (by decide) ?_
    refine lv_icmp_ge (tgt := 13) hx hb dX8_isText_6 (by decide) (fun c6 => ?_) (fun c6 => ?_)
    · replace h := if_t c6 h
      refine lv_iconst (v := 0) hx hb dX8_isText_13 (by decide) ?_
      cases h
      exact W.zret (ty := .boolean) hx hb hr rfl (fun t ht _ => ⟨rfl, ht⟩) (fun _ hq => by cases hq) dX8_isText_14
    · replace h := if_f c6 h
      refine lv_iconst (v := 1) hx hb dX8_isText_9 (by decide) ?_
      refine lv_goto (tgt := 14) hx hb dX8_isText_10 (by decide) ?_
      cases h
      exact W.zret (ty := .boolean) hx hb hr rfl (fun t ht _ => ⟨rfl, ht⟩) (fun _ hq => by cases hq) dX8_isText_14
set_option maxRecDepth 100000 in
set_option maxHeartbeats 4000000 in
theorem c_X8_isKept (l : Launch) (a0 : Int32) {o0 : Int32} (h : X8_isKept a0 = some o0) : Met l yX8_isKept (Cond.code yX8_isKept cX8_isKept 1 (some .boolean) :: gT) { frames := 0, cells := 0, slots := 0, locals := 0 } (va_Pc [.int a0] (fun _ => True)) (k2_QcV (.int o0)) 0 0 (fun _ => False) := by
  refine Met.ofW (cc := cX8_isKept) (maxL := 1) (ret := (some .boolean)) (by decide) rfl ?_
  intro p e s m args below meth c s₁ B hml hv
  obtain ⟨rfl, -⟩ := hv
  have hx := B.exec
  have hb := B.bytes
  have hr := B.returns
  have hts := atoms_spec (ws := (Cond.code yX8_isKept cX8_isKept 1 (some .boolean) :: gT)) B.pre
  have hT : ∀ w ∈ gT, w.before _ s = true := fun w hw => hts w (List.mem_cons_of_mem _ hw)
  have hown : s.vm.findClass RX8 = some m.cls := findClass_of_methodNamed B.named
  have hlocks := B.notSynchronized
  have hl := lv_entry ([.int a0]) (n := 1) (Nat.le_of_ble_eq_true rfl)
  rw [lg_entry_eq]
  generalize (lg_sl ([.int a0]) ++ List.replicate (1 - (lg_sl ([.int a0])).length) Slot.unset).toArray = ls at hl ⊢
  have hl : lv_has ls 1 [(0, .int a0)] := hl
  rw [X8_isKept] at h
  refine lv_iload_n hx hb dX8_isKept_0 rfl (lv_at hl 0 rfl) ?_
  refine lv_if_lt (tgt := 13) hx hb dX8_isKept_1 (by decide) (fun c1 => ?_) (fun c1 => ?_)
  · replace h := if_t c1 h
    refine lv_iconst (v := 0) hx hb dX8_isKept_13 (by decide) ?_
    cases h
    exact W.zret (ty := .boolean) hx hb hr rfl (fun t ht _ => ⟨rfl, ht⟩) (fun _ hq => by cases hq) dX8_isKept_14
  · replace h := if_f c1 h
    refine lv_iload_n hx hb dX8_isKept_4 rfl (lv_at hl 0 rfl) ?_
    refine lv_iconst (v := 3) hx hb dX8_isKept_5 (by decide) ?_
    refine lv_icmp_ge (tgt := 13) hx hb dX8_isKept_6 (by decide) (fun c6 => ?_) (fun c6 => ?_)
    · replace h := if_t c6 h
      refine lv_iconst (v := 0) hx hb dX8_isKept_13 (by decide) ?_
      cases h
      exact W.zret (ty := .boolean) hx hb hr rfl (fun t ht _ => ⟨rfl, ht⟩) (fun _ hq => by cases hq) dX8_isKept_14
    · replace h := if_f c6 h
      refine lv_iconst (v := 1) hx hb dX8_isKept_9 (by decide) ?_
      refine lv_goto (tgt := 14) hx hb dX8_isKept_10 (by decide) ?_
      cases h
      exact W.zret (ty := .boolean) hx hb hr rfl (fun t ht _ => ⟨rfl, ht⟩) (fun _ hq => by cases hq) dX8_isKept_14
set_option maxRecDepth 100000 in
set_option maxHeartbeats 4000000 in
theorem c_X8_isWidth (l : Launch) (a0 : Int32) {o0 : Int32} (h : X8_isWidth a0 = some o0) : Met l yX8_isWidth (Cond.code yX8_isWidth cX8_isWidth 1 (some .boolean) :: gT) { frames := 0, cells := 0, slots := 0, locals := 0 } (va_Pc [.int a0] (fun _ => True)) (k2_QcV (.int o0)) 0 0 (fun _ => False) := by
  refine Met.ofW (cc := cX8_isWidth) (maxL := 1) (ret := (some .boolean)) (by decide) rfl ?_
  intro p e s m args below meth c s₁ B hml hv
  obtain ⟨rfl, -⟩ := hv
  have hx := B.exec
  have hb := B.bytes
  have hr := B.returns
  have hts := atoms_spec (ws := (Cond.code yX8_isWidth cX8_isWidth 1 (some .boolean) :: gT)) B.pre
  have hT : ∀ w ∈ gT, w.before _ s = true := fun w hw => hts w (List.mem_cons_of_mem _ hw)
  have hown : s.vm.findClass RX8 = some m.cls := findClass_of_methodNamed B.named
  have hlocks := B.notSynchronized
  have hl := lv_entry ([.int a0]) (n := 1) (Nat.le_of_ble_eq_true rfl)
  rw [lg_entry_eq]
  generalize (lg_sl ([.int a0]) ++ List.replicate (1 - (lg_sl ([.int a0])).length) Slot.unset).toArray = ls at hl ⊢
  have hl : lv_has ls 1 [(0, .int a0)] := hl
  rw [X8_isWidth] at h
  refine lv_iload_n hx hb dX8_isWidth_0 rfl (lv_at hl 0 rfl) ?_
  refine lv_if_lt (tgt := 14) hx hb dX8_isWidth_1 (by decide) (fun c1 => ?_) (fun c1 => ?_)
  · replace h := if_t c1 h
    refine lv_iconst (v := 0) hx hb dX8_isWidth_14 (by decide) ?_
    cases h
    exact W.zret (ty := .boolean) hx hb hr rfl (fun t ht _ => ⟨rfl, ht⟩) (fun _ hq => by cases hq) dX8_isWidth_15
  · replace h := if_f c1 h
    refine lv_iload_n hx hb dX8_isWidth_4 rfl (lv_at hl 0 rfl) ?_
    refine lv_bipush (v := 7) hx hb dX8_isWidth_5 (by decide) ?_
    refine lv_icmp_gt (tgt := 14) hx hb dX8_isWidth_7 (by decide) (fun c7 => ?_) (fun c7 => ?_)
    · replace h := if_t c7 h
      refine lv_iconst (v := 0) hx hb dX8_isWidth_14 (by decide) ?_
      cases h
      exact W.zret (ty := .boolean) hx hb hr rfl (fun t ht _ => ⟨rfl, ht⟩) (fun _ hq => by cases hq) dX8_isWidth_15
    · replace h := if_f c7 h
      refine lv_iconst (v := 1) hx hb dX8_isWidth_10 (by decide) ?_
      refine lv_goto (tgt := 15) hx hb dX8_isWidth_11 (by decide) ?_
      cases h
      exact W.zret (ty := .boolean) hx hb hr rfl (fun t ht _ => ⟨rfl, ht⟩) (fun _ hq => by cases hq) dX8_isWidth_15
set_option maxRecDepth 100000 in
set_option maxHeartbeats 4000000 in
theorem c_X8_commonDivisor (l : Launch) (a0 : Int64) (a2 : Int64) {o0 : Int64} (h : X8_commonDivisor a0 a2 = some o0) : Met l yX8_commonDivisor (Cond.code yX8_commonDivisor cX8_commonDivisor 11 (some .long) :: gT) { frames := 0, cells := 0, slots := 0, locals := 0 } (va_Pc [.long a0, .long a2] (fun _ => True)) (k2_QcV (.long o0)) 0 0 (fun _ => False) := by
  refine Met.ofW (cc := cX8_commonDivisor) (maxL := 11) (ret := (some .long)) (by decide) rfl ?_
  intro p e s m args below meth c s₁ B hml hv
  obtain ⟨rfl, -⟩ := hv
  have hx := B.exec
  have hb := B.bytes
  have hr := B.returns
  have hts := atoms_spec (ws := (Cond.code yX8_commonDivisor cX8_commonDivisor 11 (some .long) :: gT)) B.pre
  have hT : ∀ w ∈ gT, w.before _ s = true := fun w hw => hts w (List.mem_cons_of_mem _ hw)
  have hown : s.vm.findClass RX8 = some m.cls := findClass_of_methodNamed B.named
  have hlocks := B.notSynchronized
  have hl := lv_entry ([.long a0, .long a2]) (n := 11) (Nat.le_of_ble_eq_true rfl)
  rw [lg_entry_eq]
  generalize (lg_sl ([.long a0, .long a2]) ++ List.replicate (11 - (lg_sl ([.long a0, .long a2])).length) Slot.unset).toArray = ls at hl ⊢
  have hl : lv_has ls 11 [(0, .long a0), (2, .long a2)] := hl
  have hL9 : ∀ (n9 : Nat) (v4 : Int64) (v6 : Int64) (v8 : Int32) (ls : Array Slot), lv_has ls 11 [(4, .long v4), (6, .long v6), (8, .int v8)] → X8_commonDivisor_9 n9 v4 v6 v8 = some o0 → W p l e (headSpec (Cond.code yX8_commonDivisor cX8_commonDivisor 11 (some .long) :: gT) { frames := 0, cells := 0, slots := 0, locals := 0 }).room s m [.long a0, .long a2].toArray below meth c s.heap [] 0 0 (MQ below (k2_QcV (.long o0)) [.long a0, .long a2].toArray s 0 0 (fun _ => False)) (F0 m 9 ls []) := by
    intro n9
    induction n9 with
    | zero =>
      intro v4 v6 v8 ls hl h
      rw [X8_commonDivisor_9] at h
      cases h
    | succ n9 ih9 =>
      intro v4 v6 v8 ls hl h
      rw [X8_commonDivisor_9] at h
      refine lv_iload hx hb dX8_commonDivisor_9 (lv_at hl 2 rfl) ?_
      refine lv_bipush (v := 100) hx hb dX8_commonDivisor_11 (by decide) ?_
      refine lv_icmp_ge (tgt := 44) hx hb dX8_commonDivisor_13 (by decide) (fun c13 => ?_) (fun c13 => ?_)
      · replace h := if_t c13 h
        refine lv_lload hx hb dX8_commonDivisor_44 (lv_at hl 0 rfl) ?_
        cases h
        exact W.lret hx hb hr (fun t ht _ => ⟨rfl, ht⟩) (fun _ hq => by cases hq) dX8_commonDivisor_46
      · replace h := if_f c13 h
        refine lv_lload hx hb dX8_commonDivisor_16 (lv_at hl 1 rfl) ?_
        refine lv_lconst (v := 0) hx hb dX8_commonDivisor_18 (by decide) ?_
        refine W.lcmp hx hb dX8_commonDivisor_19 ?_
        refine lv_if_eq (tgt := 44) hx hb dX8_commonDivisor_20 (by decide) (fun c20 => ?_) (fun c20 => ?_)
        · replace h := if_t c20 h
          refine lv_lload hx hb dX8_commonDivisor_44 (lv_at hl 0 rfl) ?_
          cases h
          exact W.lret hx hb hr (fun t ht _ => ⟨rfl, ht⟩) (fun _ hq => by cases hq) dX8_commonDivisor_46
        · replace h := if_f c20 h
          refine lv_lload hx hb dX8_commonDivisor_23 (lv_at hl 0 rfl) ?_
          refine lv_lload hx hb dX8_commonDivisor_25 (lv_at hl 1 rfl) ?_
          obtain ⟨hne27, h⟩ := gn_e h
          refine lv_lrem hx hb dX8_commonDivisor_27 hne27 ?_
          refine lv_lstore (lv' := [(9, .long (v4 - v4 / v6 * v6)), (4, .long v4), (6, .long v6), (8, .int v8)]) hx hb dX8_commonDivisor_28 hl (by decide) rfl (fun ls hl => ?_)
          refine lv_lload hx hb dX8_commonDivisor_30 (lv_at hl 2 rfl) ?_
          refine lv_lstore (lv' := [(4, .long v6), (9, .long (v4 - v4 / v6 * v6)), (6, .long v6), (8, .int v8)]) hx hb dX8_commonDivisor_32 hl (by decide) rfl (fun ls hl => ?_)
          refine lv_lload hx hb dX8_commonDivisor_34 (lv_at hl 1 rfl) ?_
          refine lv_lstore (lv' := [(6, .long (v4 - v4 / v6 * v6)), (4, .long v6), (9, .long (v4 - v4 / v6 * v6)), (8, .int v8)]) hx hb dX8_commonDivisor_36 hl (by decide) rfl (fun ls hl => ?_)
          refine lv_iinc (v := (v8 + (1 : Int32))) (lv' := [(8, .int (v8 + (1 : Int32))), (6, .long (v4 - v4 / v6 * v6)), (4, .long v6), (9, .long (v4 - v4 / v6 * v6))]) hx hb dX8_commonDivisor_38 hl (k := 3) rfl rfl (by decide) rfl (fun ls hl => ?_)
          refine lv_goto (tgt := 9) hx hb dX8_commonDivisor_41 (by decide) ?_
          exact ih9 v6 (v4 - v4 / v6 * v6) (v8 + (1 : Int32)) ls (lv_sub hl [2, 1, 0] rfl) h
  rw [X8_commonDivisor] at h
  refine lv_lload_n hx hb dX8_commonDivisor_0 rfl (lv_at hl 0 rfl) ?_
  refine lv_lstore (lv' := [(4, .long a0), (0, .long a0), (2, .long a2)]) hx hb dX8_commonDivisor_1 hl (by decide) rfl (fun ls hl => ?_)
  refine lv_lload_n hx hb dX8_commonDivisor_3 rfl (lv_at hl 2 rfl) ?_
  refine lv_lstore (lv' := [(6, .long a2), (4, .long a0), (0, .long a0), (2, .long a2)]) hx hb dX8_commonDivisor_4 hl (by decide) rfl (fun ls hl => ?_)
  refine lv_iconst (v := 0) hx hb dX8_commonDivisor_6 (by decide) ?_
  refine lv_istore (lv' := [(8, .int (0 : Int32)), (6, .long a2), (4, .long a0), (0, .long a0), (2, .long a2)]) hx hb dX8_commonDivisor_7 hl (by decide) rfl (fun ls hl => ?_)
  exact hL9 500 a0 a2 (0 : Int32) ls (lv_sub hl [2, 1, 0] rfl) h
set_option maxRecDepth 100000 in
set_option maxHeartbeats 4000000 in
theorem c_X8_thereOf_rows (l : Launch) (X : gX) (gi : Nat → Int32) (gl : Nat → Int64) (ga : Nat → Nat → Int32) (vS : Nat → Nat → Int32) (vF : Nat → Nat → Nat → Int32) (sN : Nat → Int32) (sF : Nat → Nat → Int32) {o0 : Int32} (h : X8_thereOf_rows sN = some o0) : Met l yX8_thereOf (Cond.code yX8_thereOf cX8_thereOf 3 (some .int) :: gT) { frames := 1, cells := 0, slots := 0, locals := 20 } (va_Pc [.ref (xA X 1)] (gPre X gi gl ga vS vF sN sF)) (k2_QcV (.int o0)) 0 0 (fun _ => False) := by
  refine Met.ofW (cc := cX8_thereOf) (maxL := 3) (ret := (some .int)) (by decide) rfl ?_
  intro p e s m args below meth c s₁ B hml hv
  obtain ⟨rfl, hP, hK, hN, hZ⟩ := hv
  have hx := B.exec
  have hb := B.bytes
  have hr := B.returns
  have hts := atoms_spec (ws := (Cond.code yX8_thereOf cX8_thereOf 3 (some .int) :: gT)) B.pre
  have hT : ∀ w ∈ gT, w.before _ s = true := fun w hw => hts w (List.mem_cons_of_mem _ hw)
  have hown : s.vm.findClass RX8 = some m.cls := findClass_of_methodNamed B.named
  have hlocks := B.notSynchronized
  have hS : va_S (gA X) s.heap s.heap [] := va_S.rf
  have hl := lv_entry ([.ref (xA X 1)]) (n := 3) (Nat.le_of_ble_eq_true rfl)
  rw [lg_entry_eq]
  generalize (lg_sl ([.ref (xA X 1)]) ++ List.replicate (3 - (lg_sl ([.ref (xA X 1)])).length) Slot.unset).toArray = ls at hl ⊢
  have hl : lv_has ls 3 [(0, .ref (xA X 1))] := hl
  have hL4 : ∀ (n4 : Nat) (v1 : Int32) (v2 : Int32) (ls : Array Slot), lv_has ls 3 [(0, .ref (xA X 1)), (1, .int v1), (2, .int v2)] → X8_thereOf_rows_4 sN n4 v1 v2 = some o0 → W p l e (headSpec (Cond.code yX8_thereOf cX8_thereOf 3 (some .int) :: gT) { frames := 1, cells := 0, slots := 0, locals := 20 }).room s m [.ref (xA X 1)].toArray below meth c s.heap [] 0 0 (MQ below (k2_QcV (.int o0)) [.ref (xA X 1)].toArray s 0 0 (fun _ => False)) (F0 m 4 ls []) := by
    intro n4
    induction n4 with
    | zero =>
      intro v1 v2 ls hl h
      rw [X8_thereOf_rows_4] at h
      cases h
    | succ n4 ih4 =>
      intro v1 v2 ls hl h
      rw [X8_thereOf_rows_4] at h
      refine lv_iload_n hx hb dX8_thereOf_4 rfl (lv_at hl 2 rfl) ?_
      refine lv_aload_n hx hb dX8_thereOf_5 rfl (lv_at hl 0 rfl) ?_
      refine rl_rows hx hb hK hP dX8_thereOf_6 ?_
      refine lv_icmp_ge (tgt := 28) hx hb dX8_thereOf_7 (by decide) (fun c7 => ?_) (fun c7 => ?_)
      · replace h := if_t c7 h
        refine lv_iload_n hx hb dX8_thereOf_28 rfl (lv_at hl 1 rfl) ?_
        cases h
        exact W.iret hx hb hr (fun t ht _ => ⟨rfl, ht⟩) (fun _ hq => by cases hq) dX8_thereOf_29
      · replace h := if_f c7 h
        refine lv_aload_n hx hb dX8_thereOf_10 rfl (lv_at hl 0 rfl) ?_
        refine lv_iload_n hx hb dX8_thereOf_11 rfl (lv_at hl 2 rfl) ?_
        obtain ⟨hi12, h⟩ := gd_e h
        refine rr_rows hx hb hK hP (ib_in hi12) dX8_thereOf_12 ?_
        obtain ⟨r13, hc13, h⟩ := Option.bind_eq_some_iff.mp h
        refine rcV (As := []) (rest := []) ⟨hx, hb, hml, hown, hts⟩ (c_X6_isMissing l X gi gl ga vS vF sN sF v2.toNatClampNeg (gj6 (ib_in hi12)) hc13) ⟨w_242, w_243, w_244, w_56, w_245⟩ hd_X6_isMissing rfl rfl ⟨(Nat.le_of_ble_eq_true rfl), (Nat.le_of_ble_eq_true rfl)⟩ ⟨Nat.zero_le _, Nat.zero_le _⟩ gPre_blind (va_recv hK hP (ci := 2) rfl (cG_s (gj6 (ib_in hi12)))) (gPre_call hP hK hN hZ hS) rfl rfl hl.1 (Nat.le_of_ble_eq_true rfl) dX8_thereOf_13 ?_
        refine lv_if_ne (tgt := 22) hx hb dX8_thereOf_16 (by decide) (fun c16 => ?_) (fun c16 => ?_)
        · replace h := if_f c16 h
          refine lv_iinc (v := (v2 + (1 : Int32))) (lv' := [(2, .int (v2 + (1 : Int32))), (0, .ref (xA X 1)), (1, .int v1)]) hx hb dX8_thereOf_22 hl (k := 2) rfl rfl (by decide) rfl (fun ls hl => ?_)
          refine lv_goto (tgt := 4) hx hb dX8_thereOf_25 (by decide) ?_
          exact ih4 v1 (v2 + (1 : Int32)) ls (lv_sub hl [1, 2, 0] rfl) h
        · replace h := if_t c16 h
          refine lv_iinc (v := (v1 + (1 : Int32))) (lv' := [(1, .int (v1 + (1 : Int32))), (0, .ref (xA X 1)), (2, .int v2)]) hx hb dX8_thereOf_19 hl (k := 1) rfl rfl (by decide) rfl (fun ls hl => ?_)
          refine lv_iinc (v := (v2 + (1 : Int32))) (lv' := [(2, .int (v2 + (1 : Int32))), (1, .int (v1 + (1 : Int32))), (0, .ref (xA X 1))]) hx hb dX8_thereOf_22 hl (k := 2) rfl rfl (by decide) rfl (fun ls hl => ?_)
          refine lv_goto (tgt := 4) hx hb dX8_thereOf_25 (by decide) ?_
          exact ih4 (v1 + (1 : Int32)) (v2 + (1 : Int32)) ls (lv_sub hl [2, 1, 0] rfl) h
  rw [X8_thereOf_rows] at h
  refine lv_iconst (v := 0) hx hb dX8_thereOf_0 (by decide) ?_
  refine lv_istore_n (lv' := [(1, .int (0 : Int32)), (0, .ref (xA X 1))]) hx hb dX8_thereOf_1 rfl hl (by decide) rfl (fun ls hl => ?_)
  refine lv_iconst (v := 0) hx hb dX8_thereOf_2 (by decide) ?_
  refine lv_istore_n (lv' := [(2, .int (0 : Int32)), (1, .int (0 : Int32)), (0, .ref (xA X 1))]) hx hb dX8_thereOf_3 rfl hl (by decide) rfl (fun ls hl => ?_)
  exact hL4 500 (0 : Int32) (0 : Int32) ls (lv_sub hl [2, 1, 0] rfl) h
set_option maxRecDepth 100000 in
set_option maxHeartbeats 4000000 in
theorem c_X8_thereOf_texts (l : Launch) (X : gX) (gi : Nat → Int32) (gl : Nat → Int64) (ga : Nat → Nat → Int32) (vS : Nat → Nat → Int32) (vF : Nat → Nat → Nat → Int32) (sN : Nat → Int32) (sF : Nat → Nat → Int32) {o0 : Int32} (h : X8_thereOf_texts sN = some o0) : Met l yX8_thereOf (Cond.code yX8_thereOf cX8_thereOf 3 (some .int) :: gT) { frames := 1, cells := 0, slots := 0, locals := 20 } (va_Pc [.ref (xA X 2)] (gPre X gi gl ga vS vF sN sF)) (k2_QcV (.int o0)) 0 0 (fun _ => False) := by
  refine Met.ofW (cc := cX8_thereOf) (maxL := 3) (ret := (some .int)) (by decide) rfl ?_
  intro p e s m args below meth c s₁ B hml hv
  obtain ⟨rfl, hP, hK, hN, hZ⟩ := hv
  have hx := B.exec
  have hb := B.bytes
  have hr := B.returns
  have hts := atoms_spec (ws := (Cond.code yX8_thereOf cX8_thereOf 3 (some .int) :: gT)) B.pre
  have hT : ∀ w ∈ gT, w.before _ s = true := fun w hw => hts w (List.mem_cons_of_mem _ hw)
  have hown : s.vm.findClass RX8 = some m.cls := findClass_of_methodNamed B.named
  have hlocks := B.notSynchronized
  have hS : va_S (gA X) s.heap s.heap [] := va_S.rf
  have hl := lv_entry ([.ref (xA X 2)]) (n := 3) (Nat.le_of_ble_eq_true rfl)
  rw [lg_entry_eq]
  generalize (lg_sl ([.ref (xA X 2)]) ++ List.replicate (3 - (lg_sl ([.ref (xA X 2)])).length) Slot.unset).toArray = ls at hl ⊢
  have hl : lv_has ls 3 [(0, .ref (xA X 2))] := hl
  have hL4 : ∀ (n4 : Nat) (v1 : Int32) (v2 : Int32) (ls : Array Slot), lv_has ls 3 [(0, .ref (xA X 2)), (1, .int v1), (2, .int v2)] → X8_thereOf_texts_4 sN n4 v1 v2 = some o0 → W p l e (headSpec (Cond.code yX8_thereOf cX8_thereOf 3 (some .int) :: gT) { frames := 1, cells := 0, slots := 0, locals := 20 }).room s m [.ref (xA X 2)].toArray below meth c s.heap [] 0 0 (MQ below (k2_QcV (.int o0)) [.ref (xA X 2)].toArray s 0 0 (fun _ => False)) (F0 m 4 ls []) := by
    intro n4
    induction n4 with
    | zero =>
      intro v1 v2 ls hl h
      rw [X8_thereOf_texts_4] at h
      cases h
    | succ n4 ih4 =>
      intro v1 v2 ls hl h
      rw [X8_thereOf_texts_4] at h
      refine lv_iload_n hx hb dX8_thereOf_4 rfl (lv_at hl 2 rfl) ?_
      refine lv_aload_n hx hb dX8_thereOf_5 rfl (lv_at hl 0 rfl) ?_
      refine rl_texts hx hb hK hP dX8_thereOf_6 ?_
      refine lv_icmp_ge (tgt := 28) hx hb dX8_thereOf_7 (by decide) (fun c7 => ?_) (fun c7 => ?_)
      · replace h := if_t c7 h
        refine lv_iload_n hx hb dX8_thereOf_28 rfl (lv_at hl 1 rfl) ?_
        cases h
        exact W.iret hx hb hr (fun t ht _ => ⟨rfl, ht⟩) (fun _ hq => by cases hq) dX8_thereOf_29
      · replace h := if_f c7 h
        refine lv_aload_n hx hb dX8_thereOf_10 rfl (lv_at hl 0 rfl) ?_
        refine lv_iload_n hx hb dX8_thereOf_11 rfl (lv_at hl 2 rfl) ?_
        obtain ⟨hi12, h⟩ := gd_e h
        refine rr_texts hx hb hK hP (ib_in hi12) dX8_thereOf_12 ?_
        obtain ⟨r13, hc13, h⟩ := Option.bind_eq_some_iff.mp h
        refine rcV (As := []) (rest := []) ⟨hx, hb, hml, hown, hts⟩ (c_X6_isMissing l X gi gl ga vS vF sN sF (6 + v2.toNatClampNeg) (gj4 (ib_in hi12)) hc13) ⟨w_242, w_243, w_244, w_56, w_245⟩ hd_X6_isMissing rfl rfl ⟨(Nat.le_of_ble_eq_true rfl), (Nat.le_of_ble_eq_true rfl)⟩ ⟨Nat.zero_le _, Nat.zero_le _⟩ gPre_blind (va_recv hK hP (ci := 2) rfl (cG_s (gj4 (ib_in hi12)))) (gPre_call hP hK hN hZ hS) rfl rfl hl.1 (Nat.le_of_ble_eq_true rfl) dX8_thereOf_13 ?_
        refine lv_if_ne (tgt := 22) hx hb dX8_thereOf_16 (by decide) (fun c16 => ?_) (fun c16 => ?_)
        · replace h := if_f c16 h
          refine lv_iinc (v := (v2 + (1 : Int32))) (lv' := [(2, .int (v2 + (1 : Int32))), (0, .ref (xA X 2)), (1, .int v1)]) hx hb dX8_thereOf_22 hl (k := 2) rfl rfl (by decide) rfl (fun ls hl => ?_)
          refine lv_goto (tgt := 4) hx hb dX8_thereOf_25 (by decide) ?_
          exact ih4 v1 (v2 + (1 : Int32)) ls (lv_sub hl [1, 2, 0] rfl) h
        · replace h := if_t c16 h
          refine lv_iinc (v := (v1 + (1 : Int32))) (lv' := [(1, .int (v1 + (1 : Int32))), (0, .ref (xA X 2)), (2, .int v2)]) hx hb dX8_thereOf_19 hl (k := 1) rfl rfl (by decide) rfl (fun ls hl => ?_)
          refine lv_iinc (v := (v2 + (1 : Int32))) (lv' := [(2, .int (v2 + (1 : Int32))), (1, .int (v1 + (1 : Int32))), (0, .ref (xA X 2))]) hx hb dX8_thereOf_22 hl (k := 2) rfl rfl (by decide) rfl (fun ls hl => ?_)
          refine lv_goto (tgt := 4) hx hb dX8_thereOf_25 (by decide) ?_
          exact ih4 (v1 + (1 : Int32)) (v2 + (1 : Int32)) ls (lv_sub hl [2, 1, 0] rfl) h
  rw [X8_thereOf_texts] at h
  refine lv_iconst (v := 0) hx hb dX8_thereOf_0 (by decide) ?_
  refine lv_istore_n (lv' := [(1, .int (0 : Int32)), (0, .ref (xA X 2))]) hx hb dX8_thereOf_1 rfl hl (by decide) rfl (fun ls hl => ?_)
  refine lv_iconst (v := 0) hx hb dX8_thereOf_2 (by decide) ?_
  refine lv_istore_n (lv' := [(2, .int (0 : Int32)), (1, .int (0 : Int32)), (0, .ref (xA X 2))]) hx hb dX8_thereOf_3 rfl hl (by decide) rfl (fun ls hl => ?_)
  exact hL4 500 (0 : Int32) (0 : Int32) ls (lv_sub hl [2, 1, 0] rfl) h
set_option maxRecDepth 100000 in
set_option maxHeartbeats 4000000 in
theorem c_X8_holdsPairs (l : Launch) (X : gX) (gi : Nat → Int32) (gl : Nat → Int64) (ga : Nat → Nat → Int32) (vS : Nat → Nat → Int32) (vF : Nat → Nat → Nat → Int32) (sN : Nat → Int32) (sF : Nat → Nat → Int32) (j : Nat) (hj : j < 10) {o0 : Int32} (h : X8_holdsPairs sN sF j = some o0) : Met l yX8_holdsPairs (Cond.code yX8_holdsPairs cX8_holdsPairs 4 (some .boolean) :: gT) { frames := 0, cells := 0, slots := 0, locals := 0 } (va_Pc [.ref (xAS X j 0)] (gPre X gi gl ga vS vF sN sF)) (k2_QcV (.int o0)) 0 0 (fun _ => False) := by
  refine Met.ofW (cc := cX8_holdsPairs) (maxL := 4) (ret := (some .boolean)) (by decide) rfl ?_
  intro p e s m args below meth c s₁ B hml hv
  obtain ⟨rfl, hP, hK, hN, hZ⟩ := hv
  have hx := B.exec
  have hb := B.bytes
  have hr := B.returns
  have hts := atoms_spec (ws := (Cond.code yX8_holdsPairs cX8_holdsPairs 4 (some .boolean) :: gT)) B.pre
  have hT : ∀ w ∈ gT, w.before _ s = true := fun w hw => hts w (List.mem_cons_of_mem _ hw)
  have hown : s.vm.findClass RX8 = some m.cls := findClass_of_methodNamed B.named
  have hlocks := B.notSynchronized
  have hS : va_S (gA X) s.heap s.heap [] := va_S.rf
  have hl := lv_entry ([.ref (xAS X j 0)]) (n := 4) (Nat.le_of_ble_eq_true rfl)
  rw [lg_entry_eq]
  generalize (lg_sl ([.ref (xAS X j 0)]) ++ List.replicate (4 - (lg_sl ([.ref (xAS X j 0)])).length) Slot.unset).toArray = ls at hl ⊢
  have hl : lv_has ls 4 [(0, .ref (xAS X j 0))] := hl
  have hL2 : ∀ (n2 : Nat) (v1 : Int32) (ls : Array Slot), lv_has ls 4 [(0, .ref (xAS X j 0)), (1, .int v1)] → X8_holdsPairs_2 sN sF j n2 v1 = some o0 → W p l e (headSpec (Cond.code yX8_holdsPairs cX8_holdsPairs 4 (some .boolean) :: gT) { frames := 0, cells := 0, slots := 0, locals := 0 }).room s m [.ref (xAS X j 0)].toArray below meth c s.heap [] 0 0 (MQ below (k2_QcV (.int o0)) [.ref (xAS X j 0)].toArray s 0 0 (fun _ => False)) (F0 m 2 ls []) := by
    intro n2
    induction n2 with
    | zero =>
      intro v1 ls hl h
      rw [X8_holdsPairs_2] at h
      cases h
    | succ n2 ih2 =>
      intro v1 ls hl h
      rw [X8_holdsPairs_2] at h
      refine lv_iload_n hx hb dX8_holdsPairs_2 rfl (lv_at hl 1 rfl) ?_
      refine lv_iconst (v := 1) hx hb dX8_holdsPairs_3 (by decide) ?_
      refine lv_iadd hx hb dX8_holdsPairs_4 ?_
      refine lv_aload_n hx hb dX8_holdsPairs_5 rfl (lv_at hl 0 rfl) ?_
      refine rg_S_size (j := j) hx hb hT hown hK hP hj w_180 dX8_holdsPairs_6 ?_
      refine lv_icmp_ge (tgt := 55) hx hb dX8_holdsPairs_9 (by decide) (fun c9 => ?_) (fun c9 => ?_)
      · replace h := if_t c9 h
        refine lv_iconst (v := 1) hx hb dX8_holdsPairs_55 (by decide) ?_
        cases h
        exact W.zret (ty := .boolean) hx hb hr rfl (fun t ht _ => ⟨rfl, ht⟩) (fun _ hq => by cases hq) dX8_holdsPairs_56
      · replace h := if_f c9 h
        refine lv_aload_n hx hb dX8_holdsPairs_12 rfl (lv_at hl 0 rfl) ?_
        refine rg_S_cells (j := j) hx hb hT hown hK hP hj w_177 dX8_holdsPairs_13 ?_
        refine lv_iload_n hx hb dX8_holdsPairs_16 rfl (lv_at hl 1 rfl) ?_
        obtain ⟨hi17, h⟩ := gd_e h
        refine ra_s (j := j) hx hb hK hP hj (ib_in hi17) dX8_holdsPairs_17 ?_
        refine lv_istore_n (lv' := [(2, .int (sF j v1.toNatClampNeg)), (0, .ref (xAS X j 0)), (1, .int v1)]) hx hb dX8_holdsPairs_18 rfl hl (by decide) rfl (fun ls hl => ?_)
        refine lv_aload_n hx hb dX8_holdsPairs_19 rfl (lv_at hl 1 rfl) ?_
        refine rg_S_cells (j := j) hx hb hT hown hK hP hj w_177 dX8_holdsPairs_20 ?_
        refine lv_iload_n hx hb dX8_holdsPairs_23 rfl (lv_at hl 2 rfl) ?_
        refine lv_iconst (v := 1) hx hb dX8_holdsPairs_24 (by decide) ?_
        refine lv_iadd hx hb dX8_holdsPairs_25 ?_
        obtain ⟨hi26, h⟩ := gd_e h
        refine ra_s (j := j) hx hb hK hP hj (ib_in hi26) dX8_holdsPairs_26 ?_
        refine lv_istore_n (lv' := [(3, .int (sF j (v1 + (1 : Int32)).toNatClampNeg)), (2, .int (sF j v1.toNatClampNeg)), (0, .ref (xAS X j 0)), (1, .int v1)]) hx hb dX8_holdsPairs_27 rfl hl (by decide) rfl (fun ls hl => ?_)
        refine lv_iload_n hx hb dX8_holdsPairs_28 rfl (lv_at hl 1 rfl) ?_
        refine lv_if_lt (tgt := 47) hx hb dX8_holdsPairs_29 (by decide) (fun c29 => ?_) (fun c29 => ?_)
        · replace h := if_t c29 h
          refine lv_iconst (v := 0) hx hb dX8_holdsPairs_47 (by decide) ?_
          cases h
          exact W.zret (ty := .boolean) hx hb hr rfl (fun t ht _ => ⟨rfl, ht⟩) (fun _ hq => by cases hq) dX8_holdsPairs_48
        · replace h := if_f c29 h
          refine lv_iload_n hx hb dX8_holdsPairs_32 rfl (lv_at hl 1 rfl) ?_
          refine lv_bipush (v := 7) hx hb dX8_holdsPairs_33 (by decide) ?_
          refine lv_icmp_gt (tgt := 47) hx hb dX8_holdsPairs_35 (by decide) (fun c35 => ?_) (fun c35 => ?_)
          · replace h := if_t c35 h
            refine lv_iconst (v := 0) hx hb dX8_holdsPairs_47 (by decide) ?_
            cases h
            exact W.zret (ty := .boolean) hx hb hr rfl (fun t ht _ => ⟨rfl, ht⟩) (fun _ hq => by cases hq) dX8_holdsPairs_48
          · replace h := if_f c35 h
            refine lv_iload_n hx hb dX8_holdsPairs_38 rfl (lv_at hl 0 rfl) ?_
            refine lv_if_lt (tgt := 47) hx hb dX8_holdsPairs_39 (by decide) (fun c39 => ?_) (fun c39 => ?_)
            · replace h := if_t c39 h
              refine lv_iconst (v := 0) hx hb dX8_holdsPairs_47 (by decide) ?_
              cases h
              exact W.zret (ty := .boolean) hx hb hr rfl (fun t ht _ => ⟨rfl, ht⟩) (fun _ hq => by cases hq) dX8_holdsPairs_48
            · replace h := if_f c39 h
              refine lv_iload_n hx hb dX8_holdsPairs_42 rfl (lv_at hl 0 rfl) ?_
              refine lv_iconst (v := 1) hx hb dX8_holdsPairs_43 (by decide) ?_
              refine lv_icmp_le (tgt := 49) hx hb dX8_holdsPairs_44 (by decide) (fun c44 => ?_) (fun c44 => ?_)
              · replace h := if_t c44 h
                refine lv_iinc (v := (v1 + (2 : Int32))) (lv' := [(1, .int (v1 + (2 : Int32))), (3, .int (sF j (v1 + (1 : Int32)).toNatClampNeg)), (2, .int (sF j v1.toNatClampNeg)), (0, .ref (xAS X j 0))]) hx hb dX8_holdsPairs_49 hl (k := 3) rfl rfl (by decide) rfl (fun ls hl => ?_)
                refine lv_goto (tgt := 2) hx hb dX8_holdsPairs_52 (by decide) ?_
                exact ih2 (v1 + (2 : Int32)) ls (lv_sub hl [3, 0] rfl) h
              · replace h := if_f c44 h
                refine lv_iconst (v := 0) hx hb dX8_holdsPairs_47 (by decide) ?_
                cases h
                exact W.zret (ty := .boolean) hx hb hr rfl (fun t ht _ => ⟨rfl, ht⟩) (fun _ hq => by cases hq) dX8_holdsPairs_48
  rw [X8_holdsPairs] at h
  refine lv_iconst (v := 0) hx hb dX8_holdsPairs_0 (by decide) ?_
  refine lv_istore_n (lv' := [(1, .int (0 : Int32)), (0, .ref (xAS X j 0))]) hx hb dX8_holdsPairs_1 rfl hl (by decide) rfl (fun ls hl => ?_)
  exact hL2 500 (0 : Int32) ls (lv_sub hl [1, 0] rfl) h
set_option maxRecDepth 100000 in
set_option maxHeartbeats 4000000 in
theorem c_X8_fitsPairs (l : Launch) (X : gX) (gi : Nat → Int32) (gl : Nat → Int64) (ga : Nat → Nat → Int32) (vS : Nat → Nat → Int32) (vF : Nat → Nat → Nat → Int32) (sN : Nat → Int32) (sF : Nat → Nat → Int32) (j : Nat) (hj : j < 10) (a1 : Int32) {o0 : Int32} (h : X8_fitsPairs sN sF j a1 = some o0) : Met l yX8_fitsPairs (Cond.code yX8_fitsPairs cX8_fitsPairs 3 (some .boolean) :: gT) { frames := 0, cells := 0, slots := 0, locals := 0 } (va_Pc [.ref (xAS X j 0), .int a1] (gPre X gi gl ga vS vF sN sF)) (k2_QcV (.int o0)) 0 0 (fun _ => False) := by
  refine Met.ofW (cc := cX8_fitsPairs) (maxL := 3) (ret := (some .boolean)) (by decide) rfl ?_
  intro p e s m args below meth c s₁ B hml hv
  obtain ⟨rfl, hP, hK, hN, hZ⟩ := hv
  have hx := B.exec
  have hb := B.bytes
  have hr := B.returns
  have hts := atoms_spec (ws := (Cond.code yX8_fitsPairs cX8_fitsPairs 3 (some .boolean) :: gT)) B.pre
  have hT : ∀ w ∈ gT, w.before _ s = true := fun w hw => hts w (List.mem_cons_of_mem _ hw)
  have hown : s.vm.findClass RX8 = some m.cls := findClass_of_methodNamed B.named
  have hlocks := B.notSynchronized
  have hS : va_S (gA X) s.heap s.heap [] := va_S.rf
  have hl := lv_entry ([.ref (xAS X j 0), .int a1]) (n := 3) (Nat.le_of_ble_eq_true rfl)
  rw [lg_entry_eq]
  generalize (lg_sl ([.ref (xAS X j 0), .int a1]) ++ List.replicate (3 - (lg_sl ([.ref (xAS X j 0), .int a1])).length) Slot.unset).toArray = ls at hl ⊢
  have hl : lv_has ls 3 [(0, .ref (xAS X j 0)), (1, .int a1)] := hl
  have hL2 : ∀ (n2 : Nat) (v1 : Int32) (v2 : Int32) (ls : Array Slot), lv_has ls 3 [(0, .ref (xAS X j 0)), (1, .int v1), (2, .int v2)] → X8_fitsPairs_2 sN sF j n2 v1 v2 = some o0 → W p l e (headSpec (Cond.code yX8_fitsPairs cX8_fitsPairs 3 (some .boolean) :: gT) { frames := 0, cells := 0, slots := 0, locals := 0 }).room s m [.ref (xAS X j 0), .int a1].toArray below meth c s.heap [] 0 0 (MQ below (k2_QcV (.int o0)) [.ref (xAS X j 0), .int a1].toArray s 0 0 (fun _ => False)) (F0 m 2 ls []) := by
    intro n2
    induction n2 with
    | zero =>
      intro v1 v2 ls hl h
      rw [X8_fitsPairs_2] at h
      cases h
    | succ n2 ih2 =>
      intro v1 v2 ls hl h
      rw [X8_fitsPairs_2] at h
      have hL27 : ∀ (v1 : Int32) (v2 : Int32) (t0 : Int32) (ls : Array Slot), lv_has ls 3 [(0, .ref (xAS X j 0)), (1, .int v1), (2, .int v2)] → X8_fitsPairs_27 sN sF j (X8_fitsPairs_2 sN sF j n2) v1 v2 t0 = some o0 → W p l e (headSpec (Cond.code yX8_fitsPairs cX8_fitsPairs 3 (some .boolean) :: gT) { frames := 0, cells := 0, slots := 0, locals := 0 }).room s m [.ref (xAS X j 0), .int a1].toArray below meth c s.heap [] 0 0 (MQ below (k2_QcV (.int o0)) [.ref (xAS X j 0), .int a1].toArray s 0 0 (fun _ => False)) (F0 m 27 ls [.int t0]) := by
        intro v1 v2 t0 ls hl h
        rw [X8_fitsPairs_27] at h
        refine lv_aload_n hx hb dX8_fitsPairs_27 rfl (lv_at hl 0 rfl) ?_
        refine rg_S_cells (j := j) hx hb hT hown hK hP hj w_177 dX8_fitsPairs_28 ?_
        refine lv_iload_n hx hb dX8_fitsPairs_31 rfl (lv_at hl 2 rfl) ?_
        refine lv_iconst (v := 1) hx hb dX8_fitsPairs_32 (by decide) ?_
        refine lv_iadd hx hb dX8_fitsPairs_33 ?_
        obtain ⟨hi34, h⟩ := gd_e h
        refine ra_s (j := j) hx hb hK hP hj (ib_in hi34) dX8_fitsPairs_34 ?_
        refine lv_iconst (v := 1) hx hb dX8_fitsPairs_35 (by decide) ?_
        refine lv_icmp_ne (tgt := 43) hx hb dX8_fitsPairs_36 (by decide) (fun c36 => ?_) (fun c36 => ?_)
        · replace h := if_f c36 h
          refine lv_iconst (v := 0) hx hb dX8_fitsPairs_43 (by decide) ?_
          refine lv_icmp_eq (tgt := 49) hx hb dX8_fitsPairs_44 (by decide) (fun c44 => ?_) (fun c44 => ?_)
          · replace h := if_t c44 h
            refine lv_iinc (v := (v2 + (2 : Int32))) (lv' := [(2, .int (v2 + (2 : Int32))), (0, .ref (xAS X j 0)), (1, .int v1)]) hx hb dX8_fitsPairs_49 hl (k := 2) rfl rfl (by decide) rfl (fun ls hl => ?_)
            refine lv_goto (tgt := 2) hx hb dX8_fitsPairs_52 (by decide) ?_
            exact ih2 v1 (v2 + (2 : Int32)) ls (lv_sub hl [1, 2, 0] rfl) h
          · replace h := if_f c44 h
            refine lv_iconst (v := 0) hx hb dX8_fitsPairs_47 (by decide) ?_
            cases h
            exact W.zret (ty := .boolean) hx hb hr rfl (fun t ht _ => ⟨rfl, ht⟩) (fun _ hq => by cases hq) dX8_fitsPairs_48
        · replace h := if_t c36 h
          refine lv_iconst (v := 1) hx hb dX8_fitsPairs_39 (by decide) ?_
          refine lv_goto (tgt := 44) hx hb dX8_fitsPairs_40 (by decide) ?_
          refine lv_icmp_eq (tgt := 49) hx hb dX8_fitsPairs_44 (by decide) (fun c44 => ?_) (fun c44 => ?_)
          · replace h := if_t c44 h
            refine lv_iinc (v := (v2 + (2 : Int32))) (lv' := [(2, .int (v2 + (2 : Int32))), (0, .ref (xAS X j 0)), (1, .int v1)]) hx hb dX8_fitsPairs_49 hl (k := 2) rfl rfl (by decide) rfl (fun ls hl => ?_)
            refine lv_goto (tgt := 2) hx hb dX8_fitsPairs_52 (by decide) ?_
            exact ih2 v1 (v2 + (2 : Int32)) ls (lv_sub hl [1, 2, 0] rfl) h
          · replace h := if_f c44 h
            refine lv_iconst (v := 0) hx hb dX8_fitsPairs_47 (by decide) ?_
            cases h
            exact W.zret (ty := .boolean) hx hb hr rfl (fun t ht _ => ⟨rfl, ht⟩) (fun _ hq => by cases hq) dX8_fitsPairs_48
      refine lv_iload_n hx hb dX8_fitsPairs_2 rfl (lv_at hl 2 rfl) ?_
      refine lv_iconst (v := 1) hx hb dX8_fitsPairs_3 (by decide) ?_
      refine lv_iadd hx hb dX8_fitsPairs_4 ?_
      refine lv_aload_n hx hb dX8_fitsPairs_5 rfl (lv_at hl 0 rfl) ?_
      refine rg_S_size (j := j) hx hb hT hown hK hP hj w_180 dX8_fitsPairs_6 ?_
      refine lv_icmp_ge (tgt := 55) hx hb dX8_fitsPairs_9 (by decide) (fun c9 => ?_) (fun c9 => ?_)
      · replace h := if_t c9 h
        refine lv_iconst (v := 1) hx hb dX8_fitsPairs_55 (by decide) ?_
        cases h
        exact W.zret (ty := .boolean) hx hb hr rfl (fun t ht _ => ⟨rfl, ht⟩) (fun _ hq => by cases hq) dX8_fitsPairs_56
      · replace h := if_f c9 h
        refine lv_aload_n hx hb dX8_fitsPairs_12 rfl (lv_at hl 0 rfl) ?_
        refine rg_S_cells (j := j) hx hb hT hown hK hP hj w_177 dX8_fitsPairs_13 ?_
        refine lv_iload_n hx hb dX8_fitsPairs_16 rfl (lv_at hl 2 rfl) ?_
        obtain ⟨hi17, h⟩ := gd_e h
        refine ra_s (j := j) hx hb hK hP hj (ib_in hi17) dX8_fitsPairs_17 ?_
        refine lv_iload_n hx hb dX8_fitsPairs_18 rfl (lv_at hl 1 rfl) ?_
        refine lv_icmp_lt (tgt := 26) hx hb dX8_fitsPairs_19 (by decide) (fun c19 => ?_) (fun c19 => ?_)
        · replace h := if_t c19 h
          refine lv_iconst (v := 0) hx hb dX8_fitsPairs_26 (by decide) ?_
          exact hL27 v1 v2 (0 : Int32) ls (lv_sub hl [0, 1, 2] rfl) h
        · replace h := if_f c19 h
          refine lv_iconst (v := 1) hx hb dX8_fitsPairs_22 (by decide) ?_
          refine lv_goto (tgt := 27) hx hb dX8_fitsPairs_23 (by decide) ?_
          exact hL27 v1 v2 (1 : Int32) ls (lv_sub hl [0, 1, 2] rfl) h
  rw [X8_fitsPairs] at h
  refine lv_iconst (v := 0) hx hb dX8_fitsPairs_0 (by decide) ?_
  refine lv_istore_n (lv' := [(2, .int (0 : Int32)), (0, .ref (xAS X j 0)), (1, .int a1)]) hx hb dX8_fitsPairs_1 rfl hl (by decide) rfl (fun ls hl => ?_)
  exact hL2 500 a1 (0 : Int32) ls (lv_sub hl [1, 2, 0] rfl) h
set_option maxRecDepth 100000 in
set_option maxHeartbeats 4000000 in
theorem c_X8_found (l : Launch) (X : gX) (gi : Nat → Int32) (gl : Nat → Int64) (ga : Nat → Nat → Int32) (vS : Nat → Nat → Int32) (vF : Nat → Nat → Nat → Int32) (sN : Nat → Int32) (sF : Nat → Nat → Int32) (a1 : Int32) {o0 : Int32} {o_gi : Nat → Int32} {o_ga : Nat → Nat → Int32} (h : X8_found a1 gi ga = some (o0, o_gi, o_ga)) : Met l yX8_found (Cond.code yX8_found cX8_found 2 (some .int) :: gT) { frames := 0, cells := 0, slots := 0, locals := 0 } (va_Pc [.ref (xA X 0), .int a1] (gPre X gi gl ga vS vF sN sF)) (wQ (some (.int o0)) (fun H => va_P X.1 vwCl (cG X o_gi gl o_ga vS vF sN sF) H) (gA X)) 0 0 (gA X) := by
  refine Met.ofW (cc := cX8_found) (maxL := 2) (ret := (some .int)) (by decide) rfl ?_
  intro p e s m args below meth c s₁ B hml hv
  obtain ⟨rfl, hP, hK, hN, hZ⟩ := hv
  have hx := B.exec
  have hb := B.bytes
  have hr := B.returns
  have hts := atoms_spec (ws := (Cond.code yX8_found cX8_found 2 (some .int) :: gT)) B.pre
  have hT : ∀ w ∈ gT, w.before _ s = true := fun w hw => hts w (List.mem_cons_of_mem _ hw)
  have hown : s.vm.findClass RX8 = some m.cls := findClass_of_methodNamed B.named
  have hlocks := B.notSynchronized
  have hS : va_S (gA X) s.heap s.heap [] := va_S.rf
  have hl := lv_entry ([.ref (xA X 0), .int a1]) (n := 2) (Nat.le_of_ble_eq_true rfl)
  rw [lg_entry_eq]
  generalize (lg_sl ([.ref (xA X 0), .int a1]) ++ List.replicate (2 - (lg_sl ([.ref (xA X 0), .int a1])).length) Slot.unset).toArray = ls at hl ⊢
  have hl : lv_has ls 2 [(0, .ref (xA X 0)), (1, .int a1)] := hl
  rw [X8_found] at h
  refine lv_iload_n hx hb dX8_found_0 rfl (lv_at hl 1 rfl) ?_
  refine lv_iconst (v := 1) hx hb dX8_found_1 (by decide) ?_
  refine lv_icmp_lt (tgt := 25) hx hb dX8_found_2 (by decide) (fun c2 => ?_) (fun c2 => ?_)
  · replace h := if_t c2 h
    refine lv_bipush (v := -3) hx hb dX8_found_25 (by decide) ?_
    cases h
    exact W.iret hx hb hr (fun t ht _ => ⟨rfl, by rw [ht]; exact hP, hS.F ht⟩) hS.2.2 dX8_found_27
  · replace h := if_f c2 h
    refine lv_iload_n hx hb dX8_found_5 rfl (lv_at hl 1 rfl) ?_
    refine lv_iconst (v := 5) hx hb dX8_found_6 (by decide) ?_
    refine lv_icmp_gt (tgt := 25) hx hb dX8_found_7 (by decide) (fun c7 => ?_) (fun c7 => ?_)
    · replace h := if_t c7 h
      refine lv_bipush (v := -3) hx hb dX8_found_25 (by decide) ?_
      cases h
      exact W.iret hx hb hr (fun t ht _ => ⟨rfl, by rw [ht]; exact hP, hS.F ht⟩) hS.2.2 dX8_found_27
    · replace h := if_f c7 h
      refine lv_aload_n hx hb dX8_found_10 rfl (lv_at hl 0 rfl) ?_
      refine lv_iload_n hx hb dX8_found_11 rfl (lv_at hl 1 rfl) ?_
      refine rp_G_latestFinding hx hb hT hown hK hP hN hS w_193 dX8_found_12 (fun H locs hP hS => ?_)
      generalize egi_12 : va_up gi 0 a1 = gi_12 at hP
      replace h := lt_g h egi_12
      refine lv_aload_n hx hb dX8_found_15 rfl (lv_at hl 0 rfl) ?_
      refine rg_G_findingCounts hx hb hT hown hK hP w_192 dX8_found_16 ?_
      refine lv_iload_n hx hb dX8_found_19 rfl (lv_at hl 1 rfl) ?_
      refine lv_dup2_11 hx hb dX8_found_20 rfl rfl ?_
      obtain ⟨hi21, h⟩ := gd_e h
      refine ra_g4 hx hb hK hP (ib_in hi21) dX8_found_21 ?_
      refine lv_iconst (v := 1) hx hb dX8_found_22 (by decide) ?_
      refine lv_iadd hx hb dX8_found_23 ?_
      obtain ⟨hi24, h⟩ := gd_e h
      refine rs_g4 hx hb hK hP hN hS (ib_in hi24) dX8_found_24 (fun H locs hP hS => ?_)
      generalize ega_24 : va_up ga 4 (upd (ga 4) a1.toNatClampNeg ((ga 4 a1.toNatClampNeg) + (1 : Int32))) = ga_24 at hP
      replace h := lt_g h ega_24
      refine lv_bipush (v := -3) hx hb dX8_found_25 (by decide) ?_
      cases h
      exact W.iret hx hb hr (fun t ht _ => ⟨rfl, by rw [ht]; exact hP, hS.F ht⟩) hS.2.2 dX8_found_27
set_option maxRecDepth 100000 in
set_option maxHeartbeats 4000000 in
theorem c_X8_fact (l : Launch) (X : gX) (gi : Nat → Int32) (gl : Nat → Int64) (ga : Nat → Nat → Int32) (vS : Nat → Nat → Int32) (vF : Nat → Nat → Nat → Int32) (sN : Nat → Int32) (sF : Nat → Nat → Int32) (a1 : Int32) (a2 : Int32) {o0 : Int32} (h : X8_fact vS vF a1 a2 = some o0) : Met l yX8_fact (Cond.code yX8_fact cX8_fact 3 (some .int) :: gT) { frames := 3, cells := 0, slots := 0, locals := 66 } (va_Pc [.ref (xA X 0), .int a1, .int a2] (gPre X gi gl ga vS vF sN sF)) (k2_QcV (.int o0)) 0 0 (fun _ => False) := by
  refine Met.ofW (cc := cX8_fact) (maxL := 3) (ret := (some .int)) (by decide) rfl ?_
  intro p e s m args below meth c s₁ B hml hv
  obtain ⟨rfl, hP, hK, hN, hZ⟩ := hv
  have hx := B.exec
  have hb := B.bytes
  have hr := B.returns
  have hts := atoms_spec (ws := (Cond.code yX8_fact cX8_fact 3 (some .int) :: gT)) B.pre
  have hT : ∀ w ∈ gT, w.before _ s = true := fun w hw => hts w (List.mem_cons_of_mem _ hw)
  have hown : s.vm.findClass RX8 = some m.cls := findClass_of_methodNamed B.named
  have hlocks := B.notSynchronized
  have hS : va_S (gA X) s.heap s.heap [] := va_S.rf
  have hl := lv_entry ([.ref (xA X 0), .int a1, .int a2]) (n := 3) (Nat.le_of_ble_eq_true rfl)
  rw [lg_entry_eq]
  generalize (lg_sl ([.ref (xA X 0), .int a1, .int a2]) ++ List.replicate (3 - (lg_sl ([.ref (xA X 0), .int a1, .int a2])).length) Slot.unset).toArray = ls at hl ⊢
  have hl : lv_has ls 3 [(0, .ref (xA X 0)), (1, .int a1), (2, .int a2)] := hl
  rw [X8_fact] at h
  refine lv_aload_n hx hb dX8_fact_0 rfl (lv_at hl 0 rfl) ?_
  refine rg_G_village hx hb hT hown hK hP w_188 dX8_fact_1 ?_
  refine lv_iload_n hx hb dX8_fact_4 rfl (lv_at hl 1 rfl) ?_
  obtain ⟨r5, hc5, h⟩ := Option.bind_eq_some_iff.mp h
  refine rcV (As := [.int a1]) (rest := []) ⟨hx, hb, hml, hown, hts⟩ (c_X7_isPerson l X gi gl ga vS vF sN sF a1 hc5) ⟨w_328, w_329, w_330, w_53, w_331⟩ hd_X7_isPerson rfl rfl ⟨(Nat.le_of_ble_eq_true rfl), (Nat.le_of_ble_eq_true rfl)⟩ ⟨Nat.zero_le _, Nat.zero_le _⟩ gPre_blind (va_recv hK hP (ci := 3) rfl (cG_v (by decide : 0 < 4))) (gPre_call hP hK hN hZ hS) rfl rfl hl.1 (Nat.le_of_ble_eq_true rfl) dX8_fact_5 ?_
  refine lv_if_ne (tgt := 14) hx hb dX8_fact_8 (by decide) (fun c8 => ?_) (fun c8 => ?_)
  · replace h := if_f c8 h
    refine lv_iload_n hx hb dX8_fact_14 rfl (lv_at hl 2 rfl) ?_
    by_cases q15_0 : a2 = (0 : Int32)
    · replace h := if_t q15_0 h
      refine lv_tableIn (tgt := 48) (off := 33) hx hb dX8_fact_15 (by rw [q15_0]; decide) (by rw [q15_0]; decide) (by rw [q15_0]; rfl) (by decide) ?_
      refine lv_aload_n hx hb dX8_fact_48 rfl (lv_at hl 0 rfl) ?_
      refine rg_G_village hx hb hT hown hK hP w_188 dX8_fact_49 ?_
      refine rg_V_kinds (q := (0)) hx hb hT hown hK hP (by decide : 0 < 4) w_94 dX8_fact_52 ?_
      refine lv_iload_n hx hb dX8_fact_55 rfl (lv_at hl 1 rfl) ?_
      obtain ⟨hi56, h⟩ := gd_e h
      refine ra_v0 (q := (0)) hx hb hK hP (by decide : 0 < 4) (ib_in hi56) dX8_fact_56 ?_
      cases h
      exact W.iret hx hb hr (fun t ht _ => ⟨rfl, ht⟩) (fun _ hq => by cases hq) dX8_fact_57
    replace h := if_f q15_0 h
    by_cases q15_1 : a2 = (1 : Int32)
    · replace h := if_t q15_1 h
      refine lv_tableIn (tgt := 58) (off := 43) hx hb dX8_fact_15 (by rw [q15_1]; decide) (by rw [q15_1]; decide) (by rw [q15_1]; rfl) (by decide) ?_
      refine lv_aload_n hx hb dX8_fact_58 rfl (lv_at hl 0 rfl) ?_
      refine rg_G_village hx hb hT hown hK hP w_188 dX8_fact_59 ?_
      refine rg_V_tastes (q := (0)) hx hb hT hown hK hP (by decide : 0 < 4) w_96 dX8_fact_62 ?_
      refine lv_iload_n hx hb dX8_fact_65 rfl (lv_at hl 1 rfl) ?_
      obtain ⟨hi66, h⟩ := gd_e h
      refine ra_v1 (q := (0)) hx hb hK hP (by decide : 0 < 4) (ib_in hi66) dX8_fact_66 ?_
      cases h
      exact W.iret hx hb hr (fun t ht _ => ⟨rfl, ht⟩) (fun _ hq => by cases hq) dX8_fact_67
    replace h := if_f q15_1 h
    by_cases q15_2 : a2 = (2 : Int32)
    · replace h := if_t q15_2 h
      refine lv_tableIn (tgt := 68) (off := 53) hx hb dX8_fact_15 (by rw [q15_2]; decide) (by rw [q15_2]; decide) (by rw [q15_2]; rfl) (by decide) ?_
      refine lv_aload_n hx hb dX8_fact_68 rfl (lv_at hl 0 rfl) ?_
      refine rg_G_village hx hb hT hown hK hP w_188 dX8_fact_69 ?_
      refine lv_iload_n hx hb dX8_fact_72 rfl (lv_at hl 1 rfl) ?_
      obtain ⟨r73, hc73, h⟩ := Option.bind_eq_some_iff.mp h
      refine rcV (As := [.int a1]) (rest := []) ⟨hx, hb, hml, hown, hts⟩ (c_X7_daysAgo l X gi gl ga vS vF sN sF a1 hc73) ⟨w_336, w_337, w_338, w_53, w_339⟩ hd_X7_daysAgo rfl rfl ⟨(Nat.le_of_ble_eq_true rfl), (Nat.le_of_ble_eq_true rfl)⟩ ⟨Nat.zero_le _, Nat.zero_le _⟩ gPre_blind (va_recv hK hP (ci := 3) rfl (cG_v (by decide : 0 < 4))) (gPre_call hP hK hN hZ hS) rfl rfl hl.1 (Nat.le_of_ble_eq_true rfl) dX8_fact_73 ?_
      refine lv_sipush (v := 9999) hx hb dX8_fact_76 (by decide) ?_
      refine va_mmin hx hb (hml.trans hl.1.symm) hown (hT _ w_341) (hT _ w_342) (hT _ w_57) (hT _ w_343) (Nat.le_of_ble_eq_true rfl) (Nat.le_of_ble_eq_true rfl) (Nat.zero_le _) (Nat.zero_le _) dX8_fact_79 ?_
      cases h
      exact W.iret hx hb hr (fun t ht _ => ⟨rfl, ht⟩) (fun _ hq => by cases hq) dX8_fact_82
    replace h := if_f q15_2 h
    by_cases q15_3 : a2 = (3 : Int32)
    · replace h := if_t q15_3 h
      refine lv_tableIn (tgt := 83) (off := 68) hx hb dX8_fact_15 (by rw [q15_3]; decide) (by rw [q15_3]; decide) (by rw [q15_3]; rfl) (by decide) ?_
      refine lv_aload_n hx hb dX8_fact_83 rfl (lv_at hl 0 rfl) ?_
      refine rg_G_village hx hb hT hown hK hP w_188 dX8_fact_84 ?_
      refine rg_V_holds (q := (0)) hx hb hT hown hK hP (by decide : 0 < 4) w_101 dX8_fact_87 ?_
      refine lv_iload_n hx hb dX8_fact_90 rfl (lv_at hl 1 rfl) ?_
      obtain ⟨hi91, h⟩ := gd_e h
      refine ra_v4 (q := (0)) hx hb hK hP (by decide : 0 < 4) (ib_in hi91) dX8_fact_91 ?_
      cases h
      exact W.iret hx hb hr (fun t ht _ => ⟨rfl, ht⟩) (fun _ hq => by cases hq) dX8_fact_92
    replace h := if_f q15_3 h
    by_cases q15_4 : a2 = (4 : Int32)
    · replace h := if_t q15_4 h
      refine lv_tableIn (tgt := 93) (off := 78) hx hb dX8_fact_15 (by rw [q15_4]; decide) (by rw [q15_4]; decide) (by rw [q15_4]; rfl) (by decide) ?_
      refine lv_aload_n hx hb dX8_fact_93 rfl (lv_at hl 0 rfl) ?_
      refine rg_G_village hx hb hT hown hK hP w_188 dX8_fact_94 ?_
      refine rg_V_hands (q := (0)) hx hb hT hown hK hP (by decide : 0 < 4) w_103 dX8_fact_97 ?_
      refine lv_iload_n hx hb dX8_fact_100 rfl (lv_at hl 1 rfl) ?_
      obtain ⟨hi101, h⟩ := gd_e h
      refine ra_v5 (q := (0)) hx hb hK hP (by decide : 0 < 4) (ib_in hi101) dX8_fact_101 ?_
      cases h
      exact W.iret hx hb hr (fun t ht _ => ⟨rfl, ht⟩) (fun _ hq => by cases hq) dX8_fact_102
    replace h := if_f q15_4 h
    refine lv_tableOut (tgt := 103) hx hb dX8_fact_15 (by have := tb_0_4 a2 q15_0 q15_1 q15_2 q15_3 q15_4; exact this) (by decide) ?_
    refine lv_aload_n hx hb dX8_fact_103 rfl (lv_at hl 0 rfl) ?_
    refine rg_G_village hx hb hT hown hK hP w_188 dX8_fact_104 ?_
    refine lv_iload_n hx hb dX8_fact_107 rfl (lv_at hl 1 rfl) ?_
    obtain ⟨r108, hc108, h⟩ := Option.bind_eq_some_iff.mp h
    refine rcV (As := [.int a1]) (rest := []) ⟨hx, hb, hml, hown, hts⟩ (c_X7_depth l X gi gl ga vS vF sN sF a1 hc108) ⟨w_344, w_345, w_346, w_53, w_347⟩ hd_X7_depth rfl rfl ⟨(Nat.le_of_ble_eq_true rfl), (Nat.le_of_ble_eq_true rfl)⟩ ⟨Nat.zero_le _, Nat.zero_le _⟩ gPre_blind (va_recv hK hP (ci := 3) rfl (cG_v (by decide : 0 < 4))) (gPre_call hP hK hN hZ hS) rfl rfl hl.1 (Nat.le_of_ble_eq_true rfl) dX8_fact_108 ?_
    cases h
    exact W.iret hx hb hr (fun t ht _ => ⟨rfl, ht⟩) (fun _ hq => by cases hq) dX8_fact_111
  · replace h := if_t c8 h
    refine lv_bipush (v := -9) hx hb dX8_fact_11 (by decide) ?_
    cases h
    exact W.iret hx hb hr (fun t ht _ => ⟨rfl, ht⟩) (fun _ hq => by cases hq) dX8_fact_13
set_option maxRecDepth 100000 in
set_option maxHeartbeats 4000000 in
theorem c_X8_keptCount (l : Launch) (X : gX) (gi : Nat → Int32) (gl : Nat → Int64) (ga : Nat → Nat → Int32) (vS : Nat → Nat → Int32) (vF : Nat → Nat → Nat → Int32) (sN : Nat → Int32) (sF : Nat → Nat → Int32) {o0 : Int32} (h : X8_keptCount vS = some o0) : Met l yX8_keptCount (Cond.code yX8_keptCount cX8_keptCount 3 (some .int) :: gT) { frames := 0, cells := 0, slots := 0, locals := 0 } (va_Pc [.ref (xA X 0)] (gPre X gi gl ga vS vF sN sF)) (k2_QcV (.int o0)) 0 0 (fun _ => False) := by
  refine Met.ofW (cc := cX8_keptCount) (maxL := 3) (ret := (some .int)) (by decide) rfl ?_
  intro p e s m args below meth c s₁ B hml hv
  obtain ⟨rfl, hP, hK, hN, hZ⟩ := hv
  have hx := B.exec
  have hb := B.bytes
  have hr := B.returns
  have hts := atoms_spec (ws := (Cond.code yX8_keptCount cX8_keptCount 3 (some .int) :: gT)) B.pre
  have hT : ∀ w ∈ gT, w.before _ s = true := fun w hw => hts w (List.mem_cons_of_mem _ hw)
  have hown : s.vm.findClass RX8 = some m.cls := findClass_of_methodNamed B.named
  have hlocks := B.notSynchronized
  have hS : va_S (gA X) s.heap s.heap [] := va_S.rf
  have hl := lv_entry ([.ref (xA X 0)]) (n := 3) (Nat.le_of_ble_eq_true rfl)
  rw [lg_entry_eq]
  generalize (lg_sl ([.ref (xA X 0)]) ++ List.replicate (3 - (lg_sl ([.ref (xA X 0)])).length) Slot.unset).toArray = ls at hl ⊢
  have hl : lv_has ls 3 [(0, .ref (xA X 0))] := hl
  have hL4 : ∀ (n4 : Nat) (v1 : Int32) (v2 : Int32) (ls : Array Slot), lv_has ls 3 [(0, .ref (xA X 0)), (1, .int v1), (2, .int v2)] → X8_keptCount_4 vS n4 v1 v2 = some o0 → W p l e (headSpec (Cond.code yX8_keptCount cX8_keptCount 3 (some .int) :: gT) { frames := 0, cells := 0, slots := 0, locals := 0 }).room s m [.ref (xA X 0)].toArray below meth c s.heap [] 0 0 (MQ below (k2_QcV (.int o0)) [.ref (xA X 0)].toArray s 0 0 (fun _ => False)) (F0 m 4 ls []) := by
    intro n4
    induction n4 with
    | zero =>
      intro v1 v2 ls hl h
      rw [X8_keptCount_4] at h
      cases h
    | succ n4 ih4 =>
      intro v1 v2 ls hl h
      rw [X8_keptCount_4] at h
      refine lv_iload_n hx hb dX8_keptCount_4 rfl (lv_at hl 2 rfl) ?_
      refine lv_iconst (v := 3) hx hb dX8_keptCount_5 (by decide) ?_
      refine lv_icmp_ge (tgt := 30) hx hb dX8_keptCount_6 (by decide) (fun c6 => ?_) (fun c6 => ?_)
      · replace h := if_t c6 h
        refine lv_iload_n hx hb dX8_keptCount_30 rfl (lv_at hl 1 rfl) ?_
        cases h
        exact W.iret hx hb hr (fun t ht _ => ⟨rfl, ht⟩) (fun _ hq => by cases hq) dX8_keptCount_31
      · replace h := if_f c6 h
        refine lv_aload_n hx hb dX8_keptCount_9 rfl (lv_at hl 0 rfl) ?_
        refine rg_G_kept hx hb hT hown hK hP w_189 dX8_keptCount_10 ?_
        refine lv_iload_n hx hb dX8_keptCount_13 rfl (lv_at hl 2 rfl) ?_
        obtain ⟨hi14, h⟩ := gd_e h
        refine rr_kept hx hb hK hP (ib_in hi14) dX8_keptCount_14 ?_
        refine rg_V_people (q := (1 + v2.toNatClampNeg)) hx hb hT hown hK hP (gq3 (ib_in hi14)) w_87 dX8_keptCount_15 ?_
        refine lv_if_eq (tgt := 24) hx hb dX8_keptCount_18 (by decide) (fun c18 => ?_) (fun c18 => ?_)
        · replace h := if_t c18 h
          refine lv_iinc (v := (v2 + (1 : Int32))) (lv' := [(2, .int (v2 + (1 : Int32))), (0, .ref (xA X 0)), (1, .int v1)]) hx hb dX8_keptCount_24 hl (k := 2) rfl rfl (by decide) rfl (fun ls hl => ?_)
          refine lv_goto (tgt := 4) hx hb dX8_keptCount_27 (by decide) ?_
          exact ih4 v1 (v2 + (1 : Int32)) ls (lv_sub hl [1, 2, 0] rfl) h
        · replace h := if_f c18 h
          refine lv_iinc (v := (v1 + (1 : Int32))) (lv' := [(1, .int (v1 + (1 : Int32))), (0, .ref (xA X 0)), (2, .int v2)]) hx hb dX8_keptCount_21 hl (k := 1) rfl rfl (by decide) rfl (fun ls hl => ?_)
          refine lv_iinc (v := (v2 + (1 : Int32))) (lv' := [(2, .int (v2 + (1 : Int32))), (1, .int (v1 + (1 : Int32))), (0, .ref (xA X 0))]) hx hb dX8_keptCount_24 hl (k := 2) rfl rfl (by decide) rfl (fun ls hl => ?_)
          refine lv_goto (tgt := 4) hx hb dX8_keptCount_27 (by decide) ?_
          exact ih4 (v1 + (1 : Int32)) (v2 + (1 : Int32)) ls (lv_sub hl [2, 1, 0] rfl) h
  rw [X8_keptCount] at h
  refine lv_iconst (v := 0) hx hb dX8_keptCount_0 (by decide) ?_
  refine lv_istore_n (lv' := [(1, .int (0 : Int32)), (0, .ref (xA X 0))]) hx hb dX8_keptCount_1 rfl hl (by decide) rfl (fun ls hl => ?_)
  refine lv_iconst (v := 0) hx hb dX8_keptCount_2 (by decide) ?_
  refine lv_istore_n (lv' := [(2, .int (0 : Int32)), (1, .int (0 : Int32)), (0, .ref (xA X 0))]) hx hb dX8_keptCount_3 rfl hl (by decide) rfl (fun ls hl => ?_)
  exact hL4 500 (0 : Int32) (0 : Int32) ls (lv_sub hl [2, 1, 0] rfl) h
set_option maxRecDepth 100000 in
set_option maxHeartbeats 4000000 in
theorem c_X8_counted (l : Launch) (X : gX) (gi : Nat → Int32) (gl : Nat → Int64) (ga : Nat → Nat → Int32) (vS : Nat → Nat → Int32) (vF : Nat → Nat → Nat → Int32) (sN : Nat → Int32) (sF : Nat → Nat → Int32) (a1 : Int32) {o0 : Int32} (h : X8_counted vS vF sN a1 = some o0) : Met l yX8_counted (Cond.code yX8_counted cX8_counted 2 (some .int) :: gT) { frames := 3, cells := 0, slots := 0, locals := 67 } (va_Pc [.ref (xA X 0), .int a1] (gPre X gi gl ga vS vF sN sF)) (k2_QcV (.int o0)) 0 0 (fun _ => False) := by
  refine Met.ofW (cc := cX8_counted) (maxL := 2) (ret := (some .int)) (by decide) rfl ?_
  intro p e s m args below meth c s₁ B hml hv
  obtain ⟨rfl, hP, hK, hN, hZ⟩ := hv
  have hx := B.exec
  have hb := B.bytes
  have hr := B.returns
  have hts := atoms_spec (ws := (Cond.code yX8_counted cX8_counted 2 (some .int) :: gT)) B.pre
  have hT : ∀ w ∈ gT, w.before _ s = true := fun w hw => hts w (List.mem_cons_of_mem _ hw)
  have hown : s.vm.findClass RX8 = some m.cls := findClass_of_methodNamed B.named
  have hlocks := B.notSynchronized
  have hS : va_S (gA X) s.heap s.heap [] := va_S.rf
  have hl := lv_entry ([.ref (xA X 0), .int a1]) (n := 2) (Nat.le_of_ble_eq_true rfl)
  rw [lg_entry_eq]
  generalize (lg_sl ([.ref (xA X 0), .int a1]) ++ List.replicate (2 - (lg_sl ([.ref (xA X 0), .int a1])).length) Slot.unset).toArray = ls at hl ⊢
  have hl : lv_has ls 2 [(0, .ref (xA X 0)), (1, .int a1)] := hl
  rw [X8_counted] at h
  refine lv_iload_n hx hb dX8_counted_0 rfl (lv_at hl 1 rfl) ?_
  by_cases q1_0 : a1 = (0 : Int32)
  · replace h := if_t q1_0 h
    refine lv_tableIn (tgt := 48) (off := 47) hx hb dX8_counted_1 (by rw [q1_0]; decide) (by rw [q1_0]; decide) (by rw [q1_0]; rfl) (by decide) ?_
    refine lv_aload_n hx hb dX8_counted_48 rfl (lv_at hl 0 rfl) ?_
    refine rg_G_village hx hb hT hown hK hP w_188 dX8_counted_49 ?_
    refine rg_V_people (q := (0)) hx hb hT hown hK hP (by decide : 0 < 4) w_87 dX8_counted_52 ?_
    cases h
    exact W.iret hx hb hr (fun t ht _ => ⟨rfl, ht⟩) (fun _ hq => by cases hq) dX8_counted_55
  replace h := if_f q1_0 h
  by_cases q1_1 : a1 = (1 : Int32)
  · replace h := if_t q1_1 h
    refine lv_tableIn (tgt := 56) (off := 55) hx hb dX8_counted_1 (by rw [q1_1]; decide) (by rw [q1_1]; decide) (by rw [q1_1]; rfl) (by decide) ?_
    refine lv_aload_n hx hb dX8_counted_56 rfl (lv_at hl 0 rfl) ?_
    refine rg_G_village hx hb hT hown hK hP w_188 dX8_counted_57 ?_
    refine rg_V_deeds (q := (0)) hx hb hT hown hK hP (by decide : 0 < 4) w_91 dX8_counted_60 ?_
    cases h
    exact W.iret hx hb hr (fun t ht _ => ⟨rfl, ht⟩) (fun _ hq => by cases hq) dX8_counted_63
  replace h := if_f q1_1 h
  by_cases q1_2 : a1 = (2 : Int32)
  · replace h := if_t q1_2 h
    refine lv_tableIn (tgt := 64) (off := 63) hx hb dX8_counted_1 (by rw [q1_2]; decide) (by rw [q1_2]; decide) (by rw [q1_2]; rfl) (by decide) ?_
    refine lv_aload_n hx hb dX8_counted_64 rfl (lv_at hl 0 rfl) ?_
    refine rg_G_village hx hb hT hown hK hP w_188 dX8_counted_65 ?_
    refine rg_V_day (q := (0)) hx hb hT hown hK hP (by decide : 0 < 4) w_89 dX8_counted_68 ?_
    cases h
    exact W.iret hx hb hr (fun t ht _ => ⟨rfl, ht⟩) (fun _ hq => by cases hq) dX8_counted_71
  replace h := if_f q1_2 h
  by_cases q1_3 : a1 = (3 : Int32)
  · replace h := if_t q1_3 h
    refine lv_tableIn (tgt := 72) (off := 71) hx hb dX8_counted_1 (by rw [q1_3]; decide) (by rw [q1_3]; decide) (by rw [q1_3]; rfl) (by decide) ?_
    refine lv_aload_n hx hb dX8_counted_72 rfl (lv_at hl 0 rfl) ?_
    refine rg_G_village hx hb hT hown hK hP w_188 dX8_counted_73 ?_
    obtain ⟨r76, hc76, h⟩ := Option.bind_eq_some_iff.mp h
    refine rcV (As := []) (rest := []) ⟨hx, hb, hml, hown, hts⟩ (c_X7_stuckCount l X gi gl ga vS vF sN sF hc76) ⟨w_467, w_387, w_388, w_53, w_389⟩ hd_X7_stuckCount rfl rfl ⟨(Nat.le_of_ble_eq_true rfl), (Nat.le_of_ble_eq_true rfl)⟩ ⟨Nat.zero_le _, Nat.zero_le _⟩ gPre_blind (va_recv hK hP (ci := 3) rfl (cG_v (by decide : 0 < 4))) (gPre_call hP hK hN hZ hS) rfl rfl hl.1 (Nat.le_of_ble_eq_true rfl) dX8_counted_76 ?_
    cases h
    exact W.iret hx hb hr (fun t ht _ => ⟨rfl, ht⟩) (fun _ hq => by cases hq) dX8_counted_79
  replace h := if_f q1_3 h
  by_cases q1_4 : a1 = (4 : Int32)
  · replace h := if_t q1_4 h
    refine lv_tableIn (tgt := 80) (off := 79) hx hb dX8_counted_1 (by rw [q1_4]; decide) (by rw [q1_4]; decide) (by rw [q1_4]; rfl) (by decide) ?_
    refine lv_aload_n hx hb dX8_counted_80 rfl (lv_at hl 0 rfl) ?_
    refine rg_G_village hx hb hT hown hK hP w_188 dX8_counted_81 ?_
    obtain ⟨r84, hc84, h⟩ := Option.bind_eq_some_iff.mp h
    refine rcV (As := []) (rest := []) ⟨hx, hb, hml, hown, hts⟩ (c_X7_deepest l X gi gl ga vS vF sN sF hc84) ⟨w_403, w_382, w_383, w_53, w_384⟩ hd_X7_deepest rfl rfl ⟨(Nat.le_of_ble_eq_true rfl), (Nat.le_of_ble_eq_true rfl)⟩ ⟨Nat.zero_le _, Nat.zero_le _⟩ gPre_blind (va_recv hK hP (ci := 3) rfl (cG_v (by decide : 0 < 4))) (gPre_call hP hK hN hZ hS) rfl rfl hl.1 (Nat.le_of_ble_eq_true rfl) dX8_counted_84 ?_
    cases h
    exact W.iret hx hb hr (fun t ht _ => ⟨rfl, ht⟩) (fun _ hq => by cases hq) dX8_counted_87
  replace h := if_f q1_4 h
  by_cases q1_5 : a1 = (5 : Int32)
  · replace h := if_t q1_5 h
    refine lv_tableIn (tgt := 88) (off := 87) hx hb dX8_counted_1 (by rw [q1_5]; decide) (by rw [q1_5]; decide) (by rw [q1_5]; rfl) (by decide) ?_
    refine lv_aload_n hx hb dX8_counted_88 rfl (lv_at hl 0 rfl) ?_
    refine rg_G_village hx hb hT hown hK hP w_188 dX8_counted_89 ?_
    obtain ⟨r92, hc92, h⟩ := Option.bind_eq_some_iff.mp h
    refine rcV (As := []) (rest := []) ⟨hx, hb, hml, hown, hts⟩ (c_X7_glovedCount l X gi gl ga vS vF sN sF hc92) ⟨w_743, w_744, w_745, w_53, w_746⟩ hd_X7_glovedCount rfl rfl ⟨(Nat.le_of_ble_eq_true rfl), (Nat.le_of_ble_eq_true rfl)⟩ ⟨Nat.zero_le _, Nat.zero_le _⟩ gPre_blind (va_recv hK hP (ci := 3) rfl (cG_v (by decide : 0 < 4))) (gPre_call hP hK hN hZ hS) rfl rfl hl.1 (Nat.le_of_ble_eq_true rfl) dX8_counted_92 ?_
    cases h
    exact W.iret hx hb hr (fun t ht _ => ⟨rfl, ht⟩) (fun _ hq => by cases hq) dX8_counted_95
  replace h := if_f q1_5 h
  by_cases q1_6 : a1 = (6 : Int32)
  · replace h := if_t q1_6 h
    refine lv_tableIn (tgt := 96) (off := 95) hx hb dX8_counted_1 (by rw [q1_6]; decide) (by rw [q1_6]; decide) (by rw [q1_6]; rfl) (by decide) ?_
    refine lv_aload_n hx hb dX8_counted_96 rfl (lv_at hl 0 rfl) ?_
    refine rg_G_rows hx hb hT hown hK hP w_186 dX8_counted_97 ?_
    obtain ⟨r100, hc100, h⟩ := Option.bind_eq_some_iff.mp h
    refine rcS (As := [.ref (xA X 1)]) (rest := []) ⟨hx, hb, hml, hown, hts⟩ (c_X8_thereOf_rows l X gi gl ga vS vF sN sF hc100) ⟨w_747, w_748, w_52, w_749⟩ hd_X8_thereOf rfl rfl ⟨(Nat.le_of_ble_eq_true rfl), (Nat.le_of_ble_eq_true rfl)⟩ ⟨Nat.zero_le _, Nat.zero_le _⟩ gPre_blind (gPre_call hP hK hN hZ hS) rfl rfl hl.1 (Nat.le_of_ble_eq_true rfl) dX8_counted_100 ?_
    cases h
    exact W.iret hx hb hr (fun t ht _ => ⟨rfl, ht⟩) (fun _ hq => by cases hq) dX8_counted_103
  replace h := if_f q1_6 h
  by_cases q1_7 : a1 = (7 : Int32)
  · replace h := if_t q1_7 h
    refine lv_tableIn (tgt := 104) (off := 103) hx hb dX8_counted_1 (by rw [q1_7]; decide) (by rw [q1_7]; decide) (by rw [q1_7]; rfl) (by decide) ?_
    refine lv_aload_n hx hb dX8_counted_104 rfl (lv_at hl 0 rfl) ?_
    refine rg_G_texts hx hb hT hown hK hP w_187 dX8_counted_105 ?_
    obtain ⟨r108, hc108, h⟩ := Option.bind_eq_some_iff.mp h
    refine rcS (As := [.ref (xA X 2)]) (rest := []) ⟨hx, hb, hml, hown, hts⟩ (c_X8_thereOf_texts l X gi gl ga vS vF sN sF hc108) ⟨w_747, w_748, w_52, w_749⟩ hd_X8_thereOf rfl rfl ⟨(Nat.le_of_ble_eq_true rfl), (Nat.le_of_ble_eq_true rfl)⟩ ⟨Nat.zero_le _, Nat.zero_le _⟩ gPre_blind (gPre_call hP hK hN hZ hS) rfl rfl hl.1 (Nat.le_of_ble_eq_true rfl) dX8_counted_108 ?_
    cases h
    exact W.iret hx hb hr (fun t ht _ => ⟨rfl, ht⟩) (fun _ hq => by cases hq) dX8_counted_111
  replace h := if_f q1_7 h
  refine lv_tableOut (tgt := 112) hx hb dX8_counted_1 (by have := tb_0_7 a1 q1_0 q1_1 q1_2 q1_3 q1_4 q1_5 q1_6 q1_7; exact this) (by decide) ?_
  refine lv_aload_n hx hb dX8_counted_112 rfl (lv_at hl 0 rfl) ?_
  obtain ⟨r113, hc113, h⟩ := Option.bind_eq_some_iff.mp h
  refine rcV (As := []) (rest := []) ⟨hx, hb, hml, hown, hts⟩ (c_X8_keptCount l X gi gl ga vS vF sN sF hc113) ⟨w_750, w_752, w_11, w_52, w_753⟩ hd_X8_keptCount rfl rfl ⟨(Nat.le_of_ble_eq_true rfl), (Nat.le_of_ble_eq_true rfl)⟩ ⟨Nat.zero_le _, Nat.zero_le _⟩ gPre_blind (va_recv hK hP (ci := 4) rfl cG_b0) (gPre_call hP hK hN hZ hS) rfl rfl hl.1 (Nat.le_of_ble_eq_true rfl) dX8_counted_113 ?_
  cases h
  exact W.iret hx hb hr (fun t ht _ => ⟨rfl, ht⟩) (fun _ hq => by cases hq) dX8_counted_116
set_option maxRecDepth 100000 in
set_option maxHeartbeats 4000000 in
theorem c_X8_tellFraction (l : Launch) (X : gX) (gi : Nat → Int32) (gl : Nat → Int64) (ga : Nat → Nat → Int32) (vS : Nat → Nat → Int32) (vF : Nat → Nat → Nat → Int32) (sN : Nat → Int32) (sF : Nat → Nat → Int32) (a1 : Int64) (a3 : Int64) {o_gl : Nat → Int64} (h : X8_tellFraction a1 a3 gl = some o_gl) : Met l yX8_tellFraction (Cond.code yX8_tellFraction cX8_tellFraction 7 none :: gT) { frames := 1, cells := 0, slots := 0, locals := 30 } (va_Pc [.ref (xA X 0), .long a1, .long a3] (gPre X gi gl ga vS vF sN sF)) (wQ none (fun H => va_P X.1 vwCl (cG X gi o_gl ga vS vF sN sF) H) (gA X)) 0 0 (gA X) := by
  refine Met.ofW (cc := cX8_tellFraction) (maxL := 7) (ret := none) (by decide) rfl ?_
  intro p e s m args below meth c s₁ B hml hv
  obtain ⟨rfl, hP, hK, hN, hZ⟩ := hv
  have hx := B.exec
  have hb := B.bytes
  have hr := B.returns
  have hts := atoms_spec (ws := (Cond.code yX8_tellFraction cX8_tellFraction 7 none :: gT)) B.pre
  have hT : ∀ w ∈ gT, w.before _ s = true := fun w hw => hts w (List.mem_cons_of_mem _ hw)
  have hown : s.vm.findClass RX8 = some m.cls := findClass_of_methodNamed B.named
  have hlocks := B.notSynchronized
  have hS : va_S (gA X) s.heap s.heap [] := va_S.rf
  have hl := lv_entry ([.ref (xA X 0), .long a1, .long a3]) (n := 7) (Nat.le_of_ble_eq_true rfl)
  rw [lg_entry_eq]
  generalize (lg_sl ([.ref (xA X 0), .long a1, .long a3]) ++ List.replicate (7 - (lg_sl ([.ref (xA X 0), .long a1, .long a3])).length) Slot.unset).toArray = ls at hl ⊢
  have hl : lv_has ls 7 [(0, .ref (xA X 0)), (1, .long a1), (3, .long a3)] := hl
  rw [X8_tellFraction] at h
  refine lv_lload_n hx hb dX8_tellFraction_0 rfl (lv_at hl 1 rfl) ?_
  refine lv_lload_n hx hb dX8_tellFraction_1 rfl (lv_at hl 2 rfl) ?_
  obtain ⟨r2, hc2, h⟩ := Option.bind_eq_some_iff.mp h
  refine rcS (As := [.long a1, .long a3]) (rest := []) ⟨hx, hb, hml, hown, hts⟩ (c_X8_commonDivisor l a1 a3 hc2) ⟨w_641, w_642, w_52, w_643⟩ hd_X8_commonDivisor rfl rfl ⟨(Nat.le_of_ble_eq_true rfl), (Nat.le_of_ble_eq_true rfl)⟩ ⟨Nat.zero_le _, Nat.zero_le _⟩ (fun _ _ _ _ h => h) (fun _ _ _ => trivial) rfl rfl hl.1 (Nat.le_of_ble_eq_true rfl) dX8_tellFraction_2 ?_
  refine lv_lstore (lv' := [(5, .long r2), (0, .ref (xA X 0)), (1, .long a1), (3, .long a3)]) hx hb dX8_tellFraction_5 hl (by decide) rfl (fun ls hl => ?_)
  refine lv_lload hx hb dX8_tellFraction_7 (lv_at hl 0 rfl) ?_
  refine lv_lconst (v := 0) hx hb dX8_tellFraction_9 (by decide) ?_
  refine W.lcmp hx hb dX8_tellFraction_10 ?_
  refine lv_if_gt (tgt := 15) hx hb dX8_tellFraction_11 (by decide) (fun c11 => ?_) (fun c11 => ?_)
  · replace h := if_t c11 h
    refine lv_aload_n hx hb dX8_tellFraction_15 rfl (lv_at hl 1 rfl) ?_
    refine lv_lload_n hx hb dX8_tellFraction_16 rfl (lv_at hl 2 rfl) ?_
    refine lv_lload hx hb dX8_tellFraction_17 (lv_at hl 0 rfl) ?_
    obtain ⟨hne19, h⟩ := gn_e h
    refine lv_ldiv hx hb dX8_tellFraction_19 hne19 ?_
    refine rp_G_upperTold hx hb hT hown hK hP hN hS w_195 dX8_tellFraction_20 (fun H locs hP hS => ?_)
    generalize egl_20 : va_up gl 0 (a1 / r2) = gl_20 at hP
    replace h := lt_g h egl_20
    refine lv_aload_n hx hb dX8_tellFraction_23 rfl (lv_at hl 1 rfl) ?_
    refine lv_lload_n hx hb dX8_tellFraction_24 rfl (lv_at hl 3 rfl) ?_
    refine lv_lload hx hb dX8_tellFraction_25 (lv_at hl 0 rfl) ?_
    obtain ⟨hne27, h⟩ := gn_e h
    refine lv_ldiv hx hb dX8_tellFraction_27 hne27 ?_
    refine rp_G_lowerTold hx hb hT hown hK hP hN hS w_196 dX8_tellFraction_28 (fun H locs hP hS => ?_)
    generalize egl_28 : va_up gl_20 1 (a3 / r2) = gl_28 at hP
    replace h := lt_g h egl_28
    cases h
    exact W.vret hx hb hr (fun t ht _ => ⟨rfl, by rw [ht]; exact hP, hS.F ht⟩) hS.2.2 dX8_tellFraction_31
  · replace h := if_f c11 h
    cases h
    exact W.vret hx hb hr (fun t ht _ => ⟨rfl, by rw [ht]; exact hP, hS.F ht⟩) hS.2.2 dX8_tellFraction_14
set_option maxRecDepth 100000 in
set_option maxHeartbeats 4000000 in
theorem c_X8_tastesThatFit (l : Launch) (X : gX) (gi : Nat → Int32) (gl : Nat → Int64) (ga : Nat → Nat → Int32) (vS : Nat → Nat → Int32) (vF : Nat → Nat → Nat → Int32) (sN : Nat → Int32) (sF : Nat → Nat → Int32) (a1 : Int32) (a2 : Int32) {o0 : Int32} {o_gi : Nat → Int32} {o_ga : Nat → Nat → Int32} (h : X8_tastesThatFit sN sF a1 a2 gi ga = some (o0, o_gi, o_ga)) : Met l yX8_tastesThatFit (Cond.code yX8_tastesThatFit cX8_tastesThatFit 5 (some .int) :: gT) { frames := 1, cells := 0, slots := 0, locals := 23 } (va_Pc [.ref (xA X 0), .int a1, .int a2] (gPre X gi gl ga vS vF sN sF)) (wQ (some (.int o0)) (fun H => va_P X.1 vwCl (cG X o_gi gl o_ga vS vF sN sF) H) (gA X)) 0 0 (gA X) := by
  refine Met.ofW (cc := cX8_tastesThatFit) (maxL := 5) (ret := (some .int)) (by decide) rfl ?_
  intro p e s m args below meth c s₁ B hml hv
  obtain ⟨rfl, hP, hK, hN, hZ⟩ := hv
  have hx := B.exec
  have hb := B.bytes
  have hr := B.returns
  have hts := atoms_spec (ws := (Cond.code yX8_tastesThatFit cX8_tastesThatFit 5 (some .int) :: gT)) B.pre
  have hT : ∀ w ∈ gT, w.before _ s = true := fun w hw => hts w (List.mem_cons_of_mem _ hw)
  have hown : s.vm.findClass RX8 = some m.cls := findClass_of_methodNamed B.named
  have hlocks := B.notSynchronized
  have hS : va_S (gA X) s.heap s.heap [] := va_S.rf
  have hl := lv_entry ([.ref (xA X 0), .int a1, .int a2]) (n := 5) (Nat.le_of_ble_eq_true rfl)
  rw [lg_entry_eq]
  generalize (lg_sl ([.ref (xA X 0), .int a1, .int a2]) ++ List.replicate (5 - (lg_sl ([.ref (xA X 0), .int a1, .int a2])).length) Slot.unset).toArray = ls at hl ⊢
  have hl : lv_has ls 5 [(0, .ref (xA X 0)), (1, .int a1), (2, .int a2)] := hl
  have hL70 : ∀ (n70 : Nat) (v1 : Int32) (v2 : Int32) (v3 : Int32) (v4 : Int32) (gi : Nat → Int32) (ga : Nat → Nat → Int32) (H : Heap) (locs : List Loc) (ls : Array Slot), lv_has ls 5 [(0, .ref (xA X 0)), (1, .int v1), (2, .int v2), (3, .int v3), (4, .int v4)] → va_P X.1 vwCl (cG X gi gl ga vS vF sN sF) H → va_S (gA X) s.heap H locs → X8_tastesThatFit_70 sN sF n70 v1 v2 v3 v4 gi ga = some (o0, o_gi, o_ga) → W p l e (headSpec (Cond.code yX8_tastesThatFit cX8_tastesThatFit 5 (some .int) :: gT) { frames := 1, cells := 0, slots := 0, locals := 23 }).room s m [.ref (xA X 0), .int a1, .int a2].toArray below meth c H locs 0 0 (MQ below (wQ (some (.int o0)) (fun H => va_P X.1 vwCl (cG X o_gi gl o_ga vS vF sN sF) H) (gA X)) [.ref (xA X 0), .int a1, .int a2].toArray s 0 0 (gA X)) (F0 m 70 ls []) := by
    intro n70
    induction n70 with
    | zero =>
      intro v1 v2 v3 v4 gi ga H locs ls hl hP hS h
      rw [X8_tastesThatFit_70] at h
      cases h
    | succ n70 ih70 =>
      intro v1 v2 v3 v4 gi ga H locs ls hl hP hS h
      rw [X8_tastesThatFit_70] at h
      refine lv_iload hx hb dX8_tastesThatFit_70 (lv_at hl 4 rfl) ?_
      refine lv_bipush (v := 8) hx hb dX8_tastesThatFit_72 (by decide) ?_
      refine lv_icmp_gt (tgt := 106) hx hb dX8_tastesThatFit_74 (by decide) (fun c74 => ?_) (fun c74 => ?_)
      · replace h := if_t c74 h
        refine lv_iload_n hx hb dX8_tastesThatFit_106 rfl (lv_at hl 3 rfl) ?_
        cases h
        exact W.iret hx hb hr (fun t ht _ => ⟨rfl, by rw [ht]; exact hP, hS.F ht⟩) hS.2.2 dX8_tastesThatFit_107
      · replace h := if_f c74 h
        refine lv_aload_n hx hb dX8_tastesThatFit_77 rfl (lv_at hl 0 rfl) ?_
        refine rg_G_rows hx hb hT hown hK hP w_186 dX8_tastesThatFit_78 ?_
        refine lv_iload_n hx hb dX8_tastesThatFit_81 rfl (lv_at hl 1 rfl) ?_
        obtain ⟨hi82, h⟩ := gd_e h
        refine rr_rows hx hb hK hP (ib_in hi82) dX8_tastesThatFit_82 ?_
        refine lv_iload hx hb dX8_tastesThatFit_83 (lv_at hl 4 rfl) ?_
        refine lv_iload_n hx hb dX8_tastesThatFit_85 rfl (lv_at hl 2 rfl) ?_
        refine lv_iadd hx hb dX8_tastesThatFit_86 ?_
        obtain ⟨r87, hc87, h⟩ := Option.bind_eq_some_iff.mp h
        refine rcS (As := [.ref (xAS X v1.toNatClampNeg 0), .int (v4 + v2)]) (rest := []) ⟨hx, hb, hml, hown, hts⟩ (c_X8_fitsPairs l X gi gl ga vS vF sN sF v1.toNatClampNeg (gj6 (ib_in hi82)) (v4 + v2) hc87) ⟨w_701, w_702, w_52, w_703⟩ hd_X8_fitsPairs rfl rfl ⟨(Nat.le_of_ble_eq_true rfl), (Nat.le_of_ble_eq_true rfl)⟩ ⟨Nat.zero_le _, Nat.zero_le _⟩ gPre_blind (gPre_call hP hK hN hZ hS) rfl rfl hl.1 (Nat.le_of_ble_eq_true rfl) dX8_tastesThatFit_87 ?_
        refine lv_if_eq (tgt := 100) hx hb dX8_tastesThatFit_90 (by decide) (fun c90 => ?_) (fun c90 => ?_)
        · replace h := if_t c90 h
          refine lv_iinc (v := (v4 + (1 : Int32))) (lv' := [(4, .int (v4 + (1 : Int32))), (0, .ref (xA X 0)), (1, .int v1), (2, .int v2), (3, .int v3)]) hx hb dX8_tastesThatFit_100 hl (k := 4) rfl rfl (by decide) rfl (fun ls hl => ?_)
          refine lv_goto (tgt := 70) hx hb dX8_tastesThatFit_103 (by decide) ?_
          exact ih70 v1 v2 v3 (v4 + (1 : Int32)) gi ga _ _ ls (lv_sub hl [1, 2, 3, 4, 0] rfl) hP hS h
        · replace h := if_f c90 h
          refine lv_iload_n hx hb dX8_tastesThatFit_93 rfl (lv_at hl 3 rfl) ?_
          refine lv_iconst (v := 1) hx hb dX8_tastesThatFit_94 (by decide) ?_
          refine lv_iload hx hb dX8_tastesThatFit_95 (lv_at hl 4 rfl) ?_
          refine lv_ishl hx hb dX8_tastesThatFit_97 ?_
          refine lv_ior hx hb dX8_tastesThatFit_98 ?_
          refine lv_istore_n (lv' := [(3, .int (v3 ||| ((1 : Int32) <<< (v4 &&& 31)))), (0, .ref (xA X 0)), (1, .int v1), (2, .int v2), (4, .int v4)]) hx hb dX8_tastesThatFit_99 rfl hl (by decide) rfl (fun ls hl => ?_)
          refine lv_iinc (v := (v4 + (1 : Int32))) (lv' := [(4, .int (v4 + (1 : Int32))), (3, .int (v3 ||| ((1 : Int32) <<< (v4 &&& 31)))), (0, .ref (xA X 0)), (1, .int v1), (2, .int v2)]) hx hb dX8_tastesThatFit_100 hl (k := 4) rfl rfl (by decide) rfl (fun ls hl => ?_)
          refine lv_goto (tgt := 70) hx hb dX8_tastesThatFit_103 (by decide) ?_
          exact ih70 v1 v2 (v3 ||| ((1 : Int32) <<< (v4 &&& 31))) (v4 + (1 : Int32)) gi ga _ _ ls (lv_sub hl [2, 3, 4, 1, 0] rfl) hP hS h
  rw [X8_tastesThatFit] at h
  refine lv_iload_n hx hb dX8_tastesThatFit_0 rfl (lv_at hl 1 rfl) ?_
  obtain ⟨r1, hc1, h⟩ := Option.bind_eq_some_iff.mp h
  refine rcS (As := [.int a1]) (rest := []) ⟨hx, hb, hml, hown, hts⟩ (c_X8_isRow l a1 hc1) ⟨w_224, w_225, w_52, w_226⟩ hd_X8_isRow rfl rfl ⟨(Nat.le_of_ble_eq_true rfl), (Nat.le_of_ble_eq_true rfl)⟩ ⟨Nat.zero_le _, Nat.zero_le _⟩ (fun _ _ _ _ h => h) (fun _ _ _ => trivial) rfl rfl hl.1 (Nat.le_of_ble_eq_true rfl) dX8_tastesThatFit_1 ?_
  refine lv_if_ne (tgt := 9) hx hb dX8_tastesThatFit_4 (by decide) (fun c4 => ?_) (fun c4 => ?_)
  · replace h := if_f c4 h
    refine lv_aload_n hx hb dX8_tastesThatFit_9 rfl (lv_at hl 0 rfl) ?_
    refine rg_G_rows hx hb hT hown hK hP w_186 dX8_tastesThatFit_10 ?_
    refine lv_iload_n hx hb dX8_tastesThatFit_13 rfl (lv_at hl 1 rfl) ?_
    obtain ⟨hi14, h⟩ := gd_e h
    refine rr_rows hx hb hK hP (ib_in hi14) dX8_tastesThatFit_14 ?_
    obtain ⟨r15, hc15, h⟩ := Option.bind_eq_some_iff.mp h
    refine rcV (As := []) (rest := []) ⟨hx, hb, hml, hown, hts⟩ (c_X6_isMissing l X gi gl ga vS vF sN sF a1.toNatClampNeg (gj6 (ib_in hi14)) hc15) ⟨w_242, w_243, w_244, w_56, w_245⟩ hd_X6_isMissing rfl rfl ⟨(Nat.le_of_ble_eq_true rfl), (Nat.le_of_ble_eq_true rfl)⟩ ⟨Nat.zero_le _, Nat.zero_le _⟩ gPre_blind (va_recv hK hP (ci := 2) rfl (cG_s (gj6 (ib_in hi14)))) (gPre_call hP hK hN hZ hS) rfl rfl hl.1 (Nat.le_of_ble_eq_true rfl) dX8_tastesThatFit_15 ?_
    refine lv_if_eq (tgt := 27) hx hb dX8_tastesThatFit_18 (by decide) (fun c18 => ?_) (fun c18 => ?_)
    · replace h := if_t c18 h
      refine lv_aload_n hx hb dX8_tastesThatFit_27 rfl (lv_at hl 0 rfl) ?_
      refine rg_G_rows hx hb hT hown hK hP w_186 dX8_tastesThatFit_28 ?_
      refine lv_iload_n hx hb dX8_tastesThatFit_31 rfl (lv_at hl 1 rfl) ?_
      obtain ⟨hi32, h⟩ := gd_e h
      refine rr_rows hx hb hK hP (ib_in hi32) dX8_tastesThatFit_32 ?_
      refine rg_S_size (j := a1.toNatClampNeg) hx hb hT hown hK hP (gj6 (ib_in hi32)) w_180 dX8_tastesThatFit_33 ?_
      refine lv_iconst (v := 2) hx hb dX8_tastesThatFit_36 (by decide) ?_
      obtain ⟨hne37, h⟩ := gn_e h
      refine lv_irem hx hb dX8_tastesThatFit_37 hne37 ?_
      refine lv_if_eq (tgt := 47) hx hb dX8_tastesThatFit_38 (by decide) (fun c38 => ?_) (fun c38 => ?_)
      · replace h := if_t c38 h
        refine lv_aload_n hx hb dX8_tastesThatFit_47 rfl (lv_at hl 0 rfl) ?_
        refine rg_G_rows hx hb hT hown hK hP w_186 dX8_tastesThatFit_48 ?_
        refine lv_iload_n hx hb dX8_tastesThatFit_51 rfl (lv_at hl 1 rfl) ?_
        obtain ⟨hi52, h⟩ := gd_e h
        refine rr_rows hx hb hK hP (ib_in hi52) dX8_tastesThatFit_52 ?_
        obtain ⟨r53, hc53, h⟩ := Option.bind_eq_some_iff.mp h
        refine rcS (As := [.ref (xAS X a1.toNatClampNeg 0)]) (rest := []) ⟨hx, hb, hml, hown, hts⟩ (c_X8_holdsPairs l X gi gl ga vS vF sN sF a1.toNatClampNeg (gj6 (ib_in hi52)) hc53) ⟨w_698, w_699, w_52, w_700⟩ hd_X8_holdsPairs rfl rfl ⟨(Nat.le_of_ble_eq_true rfl), (Nat.le_of_ble_eq_true rfl)⟩ ⟨Nat.zero_le _, Nat.zero_le _⟩ gPre_blind (gPre_call hP hK hN hZ hS) rfl rfl hl.1 (Nat.le_of_ble_eq_true rfl) dX8_tastesThatFit_53 ?_
        refine lv_if_ne (tgt := 65) hx hb dX8_tastesThatFit_56 (by decide) (fun c56 => ?_) (fun c56 => ?_)
        · replace h := if_f c56 h
          refine lv_iconst (v := 0) hx hb dX8_tastesThatFit_65 (by decide) ?_
          refine lv_istore_n (lv' := [(3, .int (0 : Int32)), (0, .ref (xA X 0)), (1, .int a1), (2, .int a2)]) hx hb dX8_tastesThatFit_66 rfl hl (by decide) rfl (fun ls hl => ?_)
          refine lv_iconst (v := 1) hx hb dX8_tastesThatFit_67 (by decide) ?_
          refine lv_istore (lv' := [(4, .int (1 : Int32)), (3, .int (0 : Int32)), (0, .ref (xA X 0)), (1, .int a1), (2, .int a2)]) hx hb dX8_tastesThatFit_68 hl (by decide) rfl (fun ls hl => ?_)
          exact hL70 500 a1 a2 (0 : Int32) (1 : Int32) gi ga _ _ ls (lv_sub hl [2, 3, 4, 1, 0] rfl) hP hS h
        · replace h := if_t c56 h
          refine lv_aload_n hx hb dX8_tastesThatFit_59 rfl (lv_at hl 0 rfl) ?_
          refine lv_iconst (v := 3) hx hb dX8_tastesThatFit_60 (by decide) ?_
          obtain ⟨r61, gi_61, ga_61, hc61, h⟩ := bd3_e h
          refine wcV (As := [.int (3 : Int32)]) (rest := []) ⟨hx, hb, hml, hown, hts⟩ (c_X8_found l X gi gl ga vS vF sN sF (3 : Int32) hc61) ⟨w_227, w_229, w_0, w_52, w_230⟩ hd_X8_found rfl rfl ⟨(Nat.le_of_ble_eq_true rfl), (Nat.le_of_ble_eq_true rfl)⟩ ⟨Nat.zero_le _, Nat.zero_le _⟩ gPre_blind (va_recv hK hP (ci := 4) rfl cG_b0) (gPre_call hP hK hN hZ hS) hS (fun _ h => h) rfl rfl hl.1 (Nat.le_of_ble_eq_true rfl) dX8_tastesThatFit_61 (fun H locs hP _ hS => ?_)
          have hP : va_P X.1 vwCl (cG X gi_61 gl ga_61 vS vF sN sF) H := hP
          refine W.eq (g2 := F0 m 64 ls [.int r61]) rfl ?_
          cases h
          exact W.iret hx hb hr (fun t ht _ => ⟨rfl, by rw [ht]; exact hP, hS.F ht⟩) hS.2.2 dX8_tastesThatFit_64
      · replace h := if_f c38 h
        refine lv_aload_n hx hb dX8_tastesThatFit_41 rfl (lv_at hl 0 rfl) ?_
        refine lv_iconst (v := 5) hx hb dX8_tastesThatFit_42 (by decide) ?_
        obtain ⟨r43, gi_43, ga_43, hc43, h⟩ := bd3_e h
        refine wcV (As := [.int (5 : Int32)]) (rest := []) ⟨hx, hb, hml, hown, hts⟩ (c_X8_found l X gi gl ga vS vF sN sF (5 : Int32) hc43) ⟨w_227, w_229, w_0, w_52, w_230⟩ hd_X8_found rfl rfl ⟨(Nat.le_of_ble_eq_true rfl), (Nat.le_of_ble_eq_true rfl)⟩ ⟨Nat.zero_le _, Nat.zero_le _⟩ gPre_blind (va_recv hK hP (ci := 4) rfl cG_b0) (gPre_call hP hK hN hZ hS) hS (fun _ h => h) rfl rfl hl.1 (Nat.le_of_ble_eq_true rfl) dX8_tastesThatFit_43 (fun H locs hP _ hS => ?_)
        have hP : va_P X.1 vwCl (cG X gi_43 gl ga_43 vS vF sN sF) H := hP
        refine W.eq (g2 := F0 m 46 ls [.int r43]) rfl ?_
        cases h
        exact W.iret hx hb hr (fun t ht _ => ⟨rfl, by rw [ht]; exact hP, hS.F ht⟩) hS.2.2 dX8_tastesThatFit_46
    · replace h := if_f c18 h
      refine lv_aload_n hx hb dX8_tastesThatFit_21 rfl (lv_at hl 0 rfl) ?_
      refine lv_iconst (v := 1) hx hb dX8_tastesThatFit_22 (by decide) ?_
      obtain ⟨r23, gi_23, ga_23, hc23, h⟩ := bd3_e h
      refine wcV (As := [.int (1 : Int32)]) (rest := []) ⟨hx, hb, hml, hown, hts⟩ (c_X8_found l X gi gl ga vS vF sN sF (1 : Int32) hc23) ⟨w_227, w_229, w_0, w_52, w_230⟩ hd_X8_found rfl rfl ⟨(Nat.le_of_ble_eq_true rfl), (Nat.le_of_ble_eq_true rfl)⟩ ⟨Nat.zero_le _, Nat.zero_le _⟩ gPre_blind (va_recv hK hP (ci := 4) rfl cG_b0) (gPre_call hP hK hN hZ hS) hS (fun _ h => h) rfl rfl hl.1 (Nat.le_of_ble_eq_true rfl) dX8_tastesThatFit_23 (fun H locs hP _ hS => ?_)
      have hP : va_P X.1 vwCl (cG X gi_23 gl ga_23 vS vF sN sF) H := hP
      refine W.eq (g2 := F0 m 26 ls [.int r23]) rfl ?_
      cases h
      exact W.iret hx hb hr (fun t ht _ => ⟨rfl, by rw [ht]; exact hP, hS.F ht⟩) hS.2.2 dX8_tastesThatFit_26
  · replace h := if_t c4 h
    refine lv_iconst (v := -1) hx hb dX8_tastesThatFit_7 (by decide) ?_
    cases h
    exact W.iret hx hb hr (fun t ht _ => ⟨rfl, by rw [ht]; exact hP, hS.F ht⟩) hS.2.2 dX8_tastesThatFit_8
set_option maxRecDepth 100000 in
set_option maxHeartbeats 4000000 in
theorem c_X8_addHangers (l : Launch) (X : gX) (gi : Nat → Int32) (gl : Nat → Int64) (ga : Nat → Nat → Int32) (vS : Nat → Nat → Int32) (vF : Nat → Nat → Nat → Int32) (j : Nat) (hj : j < 10) : ∀ (d : Nat) (sN : Nat → Int32) (sF : Nat → Nat → Int32) (a2 : Int32) (a3 : Int32) (o_sN : Nat → Int32) (o_sF : Nat → Nat → Int32), X8_addHangers vS vF j d a2 a3 sN sF = some (o_sN, o_sF) → Met l yX8_addHangers (Cond.code yX8_addHangers cX8_addHangers 6 none :: gT) { frames := d + 2, cells := 0, slots := 0, locals := 25 * d + 44 } (va_Pc [.ref (xAV X (0) 0), .ref (xAS X j 0), .int a2, .int a3] (gPre X gi gl ga vS vF sN sF)) (wQ none (fun H => va_P X.1 vwCl (cG X gi gl ga vS vF o_sN o_sF) H) (gA X)) 0 0 (gA X) := by
  intro d
  induction d with
  | zero =>
    intro sN sF a2 a3 o_sN o_sF h
    rw [X8_addHangers] at h
    cases h
  | succ d ihr =>
    intro sN sF a2 a3 o_sN o_sF h
    refine Met.ofW (cc := cX8_addHangers) (maxL := 6) (ret := none) (by decide) rfl ?_
    intro p e s m args below meth c s₁ B hml hv
    obtain ⟨rfl, hP, hK, hN, hZ⟩ := hv
    have hx := B.exec
    have hb := B.bytes
    have hr := B.returns
    have hts := atoms_spec (ws := (Cond.code yX8_addHangers cX8_addHangers 6 none :: gT)) B.pre
    have hT : ∀ w ∈ gT, w.before _ s = true := fun w hw => hts w (List.mem_cons_of_mem _ hw)
    have hown : s.vm.findClass RX8 = some m.cls := findClass_of_methodNamed B.named
    have hlocks := B.notSynchronized
    have hS : va_S (gA X) s.heap s.heap [] := va_S.rf
    have hl := lv_entry ([.ref (xAV X (0) 0), .ref (xAS X j 0), .int a2, .int a3]) (n := 6) (Nat.le_of_ble_eq_true rfl)
    rw [lg_entry_eq]
    generalize (lg_sl ([.ref (xAV X (0) 0), .ref (xAS X j 0), .int a2, .int a3]) ++ List.replicate (6 - (lg_sl ([.ref (xAV X (0) 0), .ref (xAS X j 0), .int a2, .int a3])).length) Slot.unset).toArray = ls at hl ⊢
    have hl : lv_has ls 6 [(0, .ref (xAV X (0) 0)), (1, .ref (xAS X j 0)), (2, .int a2), (3, .int a3)] := hl
    have hL17 : ∀ (n17 : Nat) (v3 : Int32) (v4 : Int32) (v5 : Int32) (sN : Nat → Int32) (sF : Nat → Nat → Int32) (H : Heap) (locs : List Loc) (ls : Array Slot), lv_has ls 6 [(0, .ref (xAV X (0) 0)), (1, .ref (xAS X j 0)), (3, .int v3), (4, .int v4), (5, .int v5)] → va_P X.1 vwCl (cG X gi gl ga vS vF sN sF) H → va_S (gA X) s.heap H locs → X8_addHangers_17 vS vF j (X8_addHangers vS vF j d) n17 v3 v4 v5 sN sF = some (o_sN, o_sF) → W p l e (headSpec (Cond.code yX8_addHangers cX8_addHangers 6 none :: gT) { frames := d + 1 + 2, cells := 0, slots := 0, locals := 25 * (d + 1) + 44 }).room s m [.ref (xAV X (0) 0), .ref (xAS X j 0), .int a2, .int a3].toArray below meth c H locs 0 0 (MQ below (wQ none (fun H => va_P X.1 vwCl (cG X gi gl ga vS vF o_sN o_sF) H) (gA X)) [.ref (xAV X (0) 0), .ref (xAS X j 0), .int a2, .int a3].toArray s 0 0 (gA X)) (F0 m 17 ls []) := by
      intro n17
      induction n17 with
      | zero =>
        intro v3 v4 v5 sN sF H locs ls hl hP hS h
        rw [X8_addHangers_17] at h
        cases h
      | succ n17 ih17 =>
        intro v3 v4 v5 sN sF H locs ls hl hP hS h
        rw [X8_addHangers_17] at h
        refine lv_iload hx hb dX8_addHangers_17 (lv_at hl 4 rfl) ?_
        refine lv_bipush (v := 7) hx hb dX8_addHangers_19 (by decide) ?_
        refine lv_icmp_ge (tgt := 56) hx hb dX8_addHangers_21 (by decide) (fun c21 => ?_) (fun c21 => ?_)
        · replace h := if_t c21 h
          cases h
          exact W.vret hx hb hr (fun t ht _ => ⟨rfl, by rw [ht]; exact hP, hS.F ht⟩) hS.2.2 dX8_addHangers_56
        · replace h := if_f c21 h
          refine lv_iload hx hb dX8_addHangers_24 (lv_at hl 3 rfl) ?_
          refine lv_iload hx hb dX8_addHangers_26 (lv_at hl 4 rfl) ?_
          refine lv_ishr hx hb dX8_addHangers_28 ?_
          refine lv_iconst (v := 1) hx hb dX8_addHangers_29 (by decide) ?_
          refine lv_iand hx hb dX8_addHangers_30 ?_
          refine lv_if_eq (tgt := 50) hx hb dX8_addHangers_31 (by decide) (fun c31 => ?_) (fun c31 => ?_)
          · replace h := if_t c31 h
            refine lv_iinc (v := (v5 + (1 : Int32))) (lv' := [(5, .int (v5 + (1 : Int32))), (0, .ref (xAV X (0) 0)), (1, .ref (xAS X j 0)), (3, .int v3), (4, .int v4)]) hx hb dX8_addHangers_50 hl (k := 4) rfl rfl (by decide) rfl (fun ls hl => ?_)
            refine lv_goto (tgt := 17) hx hb dX8_addHangers_53 (by decide) ?_
            exact ih17 v3 v4 (v5 + (1 : Int32)) sN sF _ _ ls (lv_sub hl [1, 2, 3, 4, 0] rfl) hP hS h
          · replace h := if_f c31 h
            refine lv_aload_n hx hb dX8_addHangers_34 rfl (lv_at hl 1 rfl) ?_
            refine lv_iload hx hb dX8_addHangers_35 (lv_at hl 4 rfl) ?_
            obtain ⟨sN_37, sF_37, hc37, h⟩ := bd2_e h
            refine wcV (As := [.int v5]) (rest := []) ⟨hx, hb, hml, hown, hts⟩ (c_X6_add l X gi gl ga vS vF sN sF j hj v5 hc37) ⟨w_502, w_503, w_504, w_56, w_505⟩ hd_X6_add rfl rfl ⟨(by show 0 + 1 ≤ d + 1 + 2; omega), (by show 8 + (2 + 11) + 0 ≤ 25 * (d + 1) + 44; omega)⟩ ⟨Nat.zero_le _, Nat.zero_le _⟩ gPre_blind (va_recv hK hP (ci := 2) rfl (cG_s hj)) (gPre_call hP hK hN hZ hS) hS (fun _ h => h) rfl rfl hl.1 (Nat.le_of_ble_eq_true rfl) dX8_addHangers_37 (fun H locs hP _ hS => ?_)
            have hP : va_P X.1 vwCl (cG X gi gl ga vS vF sN_37 sF_37) H := hP
            refine W.eq (g2 := F0 m 40 ls []) rfl ?_
            refine lv_aload_n hx hb dX8_addHangers_40 rfl (lv_at hl 0 rfl) ?_
            refine lv_aload_n hx hb dX8_addHangers_41 rfl (lv_at hl 1 rfl) ?_
            refine lv_iload hx hb dX8_addHangers_42 (lv_at hl 4 rfl) ?_
            refine lv_iload_n hx hb dX8_addHangers_44 rfl (lv_at hl 2 rfl) ?_
            refine lv_iconst (v := 1) hx hb dX8_addHangers_45 (by decide) ?_
            refine lv_iadd hx hb dX8_addHangers_46 ?_
            obtain ⟨sN_47, sF_47, hc47, h⟩ := bd2_e h
            refine wcS (As := [.ref (xAV X (0) 0), .ref (xAS X j 0), .int v5, .int (v3 + (1 : Int32))]) (rest := []) ⟨hx, hb, hml, hown, hts⟩ (ihr sN_37 sF_37 v5 (v3 + (1 : Int32)) _ _ hc47) ⟨w_499, w_500, w_52, w_501⟩ hd_X8_addHangers rfl rfl ⟨(by show d + 2 + 1 ≤ d + 1 + 2; omega), (by show 8 + (6 + 11) + (25 * d + 44) ≤ 25 * (d + 1) + 44; omega)⟩ ⟨Nat.zero_le _, Nat.zero_le _⟩ gPre_blind (gPre_call hP hK hN hZ hS) hS (fun _ h => h) rfl rfl hl.1 (Nat.le_of_ble_eq_true rfl) dX8_addHangers_47 (fun H locs hP _ hS => ?_)
            have hP : va_P X.1 vwCl (cG X gi gl ga vS vF sN_47 sF_47) H := hP
            refine W.eq (g2 := F0 m 50 ls []) rfl ?_
            refine lv_iinc (v := (v5 + (1 : Int32))) (lv' := [(5, .int (v5 + (1 : Int32))), (0, .ref (xAV X (0) 0)), (1, .ref (xAS X j 0)), (3, .int v3), (4, .int v4)]) hx hb dX8_addHangers_50 hl (k := 4) rfl rfl (by decide) rfl (fun ls hl => ?_)
            refine lv_goto (tgt := 17) hx hb dX8_addHangers_53 (by decide) ?_
            exact ih17 v3 v4 (v5 + (1 : Int32)) sN_47 sF_47 _ _ ls (lv_sub hl [1, 2, 3, 4, 0] rfl) hP hS h
    rw [X8_addHangers] at h
    refine lv_iload_n hx hb dX8_addHangers_0 rfl (lv_at hl 3 rfl) ?_
    refine lv_bipush (v := 7) hx hb dX8_addHangers_1 (by decide) ?_
    refine lv_icmp_lt (tgt := 7) hx hb dX8_addHangers_3 (by decide) (fun c3 => ?_) (fun c3 => ?_)
    · replace h := if_t c3 h
      refine lv_aload_n hx hb dX8_addHangers_7 rfl (lv_at hl 0 rfl) ?_
      refine lv_iload_n hx hb dX8_addHangers_8 rfl (lv_at hl 2 rfl) ?_
      obtain ⟨r9, hc9, h⟩ := Option.bind_eq_some_iff.mp h
      refine rcV (As := [.int a2]) (rest := []) ⟨hx, hb, hml, hown, hts⟩ (c_X7_hangers l X gi gl ga vS vF sN sF a2 hc9) ⟨w_494, w_400, w_401, w_53, w_402⟩ hd_X7_hangers rfl rfl ⟨(by show 1 + 1 ≤ d + 1 + 2; omega), (by show 8 + (4 + 11) + 21 ≤ 25 * (d + 1) + 44; omega)⟩ ⟨Nat.zero_le _, Nat.zero_le _⟩ gPre_blind (va_recv hK hP (ci := 3) rfl (cG_v (by decide : 0 < 4))) (gPre_call hP hK hN hZ hS) rfl rfl hl.1 (Nat.le_of_ble_eq_true rfl) dX8_addHangers_9 ?_
      refine lv_istore (lv' := [(4, .int r9), (0, .ref (xAV X (0) 0)), (1, .ref (xAS X j 0)), (2, .int a2), (3, .int a3)]) hx hb dX8_addHangers_12 hl (by decide) rfl (fun ls hl => ?_)
      refine lv_iconst (v := 0) hx hb dX8_addHangers_14 (by decide) ?_
      refine lv_istore (lv' := [(5, .int (0 : Int32)), (4, .int r9), (0, .ref (xAV X (0) 0)), (1, .ref (xAS X j 0)), (2, .int a2), (3, .int a3)]) hx hb dX8_addHangers_15 hl (by decide) rfl (fun ls hl => ?_)
      exact hL17 500 a3 r9 (0 : Int32) sN sF _ _ ls (lv_sub hl [2, 3, 5, 1, 0] rfl) hP hS h
    · replace h := if_f c3 h
      cases h
      exact W.vret hx hb hr (fun t ht _ => ⟨rfl, by rw [ht]; exact hP, hS.F ht⟩) hS.2.2 dX8_addHangers_6
