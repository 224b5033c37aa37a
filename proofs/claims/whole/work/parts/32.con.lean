set_option maxRecDepth 100000 in
set_option maxHeartbeats 4000000 in
theorem c_X9_tastesBy (l : Launch) (X : gX) (mi : Nat → Int32) (ml : Nat → Int64) (ma : Nat → Nat → Int32) (mb : Nat → Nat → Int64) (a1 : Int32) (a2 : Int32) {o0 : Int32} {o_mi : Nat → Int32} {o_ma : Nat → Nat → Int32} (h : X9_tastesBy a1 a2 mi ma = some (o0, o_mi, o_ma)) : Met l yX9_tastesBy (Cond.code yX9_tastesBy cX9_tastesBy 8 (some .int) :: gT) { frames := 2, cells := 0, slots := 0, locals := 48 } (va_Pc [.ref (xB X 0), .int a1, .int a2] (mPre X mi ml ma mb)) (wQ (some (.int o0)) (fun H => va_P X.1 vwCl (cM X o_mi ml o_ma mb) H) (mA X)) 0 0 (mA X) := by
  refine Met.ofW (cc := cX9_tastesBy) (maxL := 8) (ret := (some .int)) (by decide) rfl ?_
  intro p e s m args below meth c s₁ B hml hv
  obtain ⟨rfl, hP, hK, hN⟩ := hv
  have hx := B.exec
  have hb := B.bytes
  have hr := B.returns
  have hts := atoms_spec (ws := (Cond.code yX9_tastesBy cX9_tastesBy 8 (some .int) :: gT)) B.pre
  have hT : ∀ w ∈ gT, w.before _ s = true := fun w hw => hts w (List.mem_cons_of_mem _ hw)
  have hown : s.vm.findClass RX9 = some m.cls := findClass_of_methodNamed B.named
  have hlocks := B.notSynchronized
  have hS : va_S (mA X) s.heap s.heap [] := va_S.rf
  have hl := lv_entry ([.ref (xB X 0), .int a1, .int a2]) (n := 8) (Nat.le_of_ble_eq_true rfl)
  rw [lg_entry_eq]
  generalize (lg_sl ([.ref (xB X 0), .int a1, .int a2]) ++ List.replicate (8 - (lg_sl ([.ref (xB X 0), .int a1, .int a2])).length) Slot.unset).toArray = ls at hl ⊢
  have hl : lv_has ls 8 [(0, .ref (xB X 0)), (1, .int a1), (2, .int a2)] := hl
  have hL60 : ∀ (n60 : Nat) (v1 : Int32) (v2 : Int32) (v3 : Int32) (v4 : Int32) (mi : Nat → Int32) (ma : Nat → Nat → Int32) (H : Heap) (locs : List Loc) (ls : Array Slot), lv_has ls 8 [(0, .ref (xB X 0)), (1, .int v1), (2, .int v2), (3, .int v3), (4, .int v4)] → va_P X.1 vwCl (cM X mi ml ma mb) H → va_S (mA X) s.heap H locs → X9_tastesBy_60 n60 v1 v2 v3 v4 mi ma = some (o0, o_mi, o_ma) → W p l e (headSpec (Cond.code yX9_tastesBy cX9_tastesBy 8 (some .int) :: gT) { frames := 2, cells := 0, slots := 0, locals := 48 }).room s m [.ref (xB X 0), .int a1, .int a2].toArray below meth c H locs 0 0 (MQ below (wQ (some (.int o0)) (fun H => va_P X.1 vwCl (cM X o_mi ml o_ma mb) H) (mA X)) [.ref (xB X 0), .int a1, .int a2].toArray s 0 0 (mA X)) (F0 m 60 ls []) := by
    intro n60
    induction n60 with
    | zero =>
      intro v1 v2 v3 v4 mi ma H locs ls hl hP hS h
      rw [X9_tastesBy_60] at h
      cases h
    | succ n60 ih60 =>
      intro v1 v2 v3 v4 mi ma H locs ls hl hP hS h
      rw [X9_tastesBy_60] at h
      have hL73 : ∀ (n73 : Nat) (v1 : Int32) (v2 : Int32) (v3 : Int32) (v4 : Int32) (v5 : Int32) (v6 : Int32) (mi : Nat → Int32) (ma : Nat → Nat → Int32) (H : Heap) (locs : List Loc) (ls : Array Slot), lv_has ls 8 [(0, .ref (xB X 0)), (1, .int v1), (2, .int v2), (3, .int v3), (4, .int v4), (5, .int v5), (6, .int v6)] → va_P X.1 vwCl (cM X mi ml ma mb) H → va_S (mA X) s.heap H locs → X9_tastesBy_73 (X9_tastesBy_60 n60) n73 v1 v2 v3 v4 v5 v6 mi ma = some (o0, o_mi, o_ma) → W p l e (headSpec (Cond.code yX9_tastesBy cX9_tastesBy 8 (some .int) :: gT) { frames := 2, cells := 0, slots := 0, locals := 48 }).room s m [.ref (xB X 0), .int a1, .int a2].toArray below meth c H locs 0 0 (MQ below (wQ (some (.int o0)) (fun H => va_P X.1 vwCl (cM X o_mi ml o_ma mb) H) (mA X)) [.ref (xB X 0), .int a1, .int a2].toArray s 0 0 (mA X)) (F0 m 73 ls []) := by
        intro n73
        induction n73 with
        | zero =>
          intro v1 v2 v3 v4 v5 v6 mi ma H locs ls hl hP hS h
          rw [X9_tastesBy_73] at h
          cases h
        | succ n73 ih73 =>
          intro v1 v2 v3 v4 v5 v6 mi ma H locs ls hl hP hS h
          rw [X9_tastesBy_73] at h
          have hL108 : ∀ (v1 : Int32) (v2 : Int32) (v3 : Int32) (v4 : Int32) (v5 : Int32) (v6 : Int32) (t0 : Int32) (mi : Nat → Int32) (ma : Nat → Nat → Int32) (H : Heap) (locs : List Loc) (ls : Array Slot), lv_has ls 8 [(0, .ref (xB X 0)), (1, .int v1), (2, .int v2), (3, .int v3), (4, .int v4), (5, .int v5), (6, .int v6)] → va_P X.1 vwCl (cM X mi ml ma mb) H → va_S (mA X) s.heap H locs → X9_tastesBy_108 (X9_tastesBy_60 n60) (X9_tastesBy_73 (X9_tastesBy_60 n60) n73) v1 v2 v3 v4 v5 v6 t0 mi ma = some (o0, o_mi, o_ma) → W p l e (headSpec (Cond.code yX9_tastesBy cX9_tastesBy 8 (some .int) :: gT) { frames := 2, cells := 0, slots := 0, locals := 48 }).room s m [.ref (xB X 0), .int a1, .int a2].toArray below meth c H locs 0 0 (MQ below (wQ (some (.int o0)) (fun H => va_P X.1 vwCl (cM X o_mi ml o_ma mb) H) (mA X)) [.ref (xB X 0), .int a1, .int a2].toArray s 0 0 (mA X)) (F0 m 108 ls [.int t0]) := by
            intro v1 v2 v3 v4 v5 v6 t0 mi ma H locs ls hl hP hS h
            rw [X9_tastesBy_108] at h
            refine lv_istore (lv' := [(7, .int t0), (0, .ref (xB X 0)), (1, .int v1), (2, .int v2), (3, .int v3), (4, .int v4), (5, .int v5), (6, .int v6)]) hx hb dX9_tastesBy_108 hl (by decide) rfl (fun ls hl => ?_)
            refine lv_iload hx hb dX9_tastesBy_110 (lv_at hl 6 rfl) ?_
            refine lv_if_eq (tgt := 147) hx hb dX9_tastesBy_112 (by decide) (fun c112 => ?_) (fun c112 => ?_)
            · replace h := if_t c112 h
              refine lv_iconst (v := 0) hx hb dX9_tastesBy_147 (by decide) ?_
              refine lv_istore (lv' := [(5, .int (0 : Int32)), (7, .int t0), (0, .ref (xB X 0)), (1, .int v1), (2, .int v2), (3, .int v3), (4, .int v4), (6, .int v6)]) hx hb dX9_tastesBy_148 hl (by decide) rfl (fun ls hl => ?_)
              refine lv_iinc (v := (v6 + (2 : Int32))) (lv' := [(6, .int (v6 + (2 : Int32))), (5, .int (0 : Int32)), (7, .int t0), (0, .ref (xB X 0)), (1, .int v1), (2, .int v2), (3, .int v3), (4, .int v4)]) hx hb dX9_tastesBy_150 hl (k := 7) rfl rfl (by decide) rfl (fun ls hl => ?_)
              refine lv_goto (tgt := 73) hx hb dX9_tastesBy_153 (by decide) ?_
              exact ih73 v1 v2 v3 v4 (0 : Int32) (v6 + (2 : Int32)) mi ma _ _ ls (lv_sub hl [3, 4, 5, 6, 7, 1, 0] rfl) hP hS h
            · replace h := if_f c112 h
              refine lv_iload hx hb dX9_tastesBy_115 (lv_at hl 0 rfl) ?_
              refine lv_aload_n hx hb dX9_tastesBy_117 rfl (lv_at hl 1 rfl) ?_
              refine rg_M_rows hx hb hT hown hK hP w_797 dX9_tastesBy_118 ?_
              refine lv_bipush (v := 40) hx hb dX9_tastesBy_121 (by decide) ?_
              refine lv_iload_n hx hb dX9_tastesBy_123 rfl (lv_at hl 2 rfl) ?_
              refine lv_imul hx hb dX9_tastesBy_124 ?_
              refine lv_iload hx hb dX9_tastesBy_125 (lv_at hl 7 rfl) ?_
              refine lv_iadd hx hb dX9_tastesBy_127 ?_
              refine lv_iconst (v := 1) hx hb dX9_tastesBy_128 (by decide) ?_
              refine lv_iadd hx hb dX9_tastesBy_129 ?_
              obtain ⟨hi130, h⟩ := gd_e h
              refine ra_m11 hx hb hK hP (ib_in hi130) dX9_tastesBy_130 ?_
              refine lv_iconst (v := 1) hx hb dX9_tastesBy_131 (by decide) ?_
              refine lv_icmp_ne (tgt := 139) hx hb dX9_tastesBy_132 (by decide) (fun c132 => ?_) (fun c132 => ?_)
              · replace h := if_f c132 h
                refine lv_iconst (v := 0) hx hb dX9_tastesBy_139 (by decide) ?_
                refine lv_icmp_ne (tgt := 147) hx hb dX9_tastesBy_140 (by decide) (fun c140 => ?_) (fun c140 => ?_)
                · replace h := if_f c140 h
                  refine lv_iconst (v := 0) hx hb dX9_tastesBy_147 (by decide) ?_
                  refine lv_istore (lv' := [(5, .int (0 : Int32)), (7, .int t0), (0, .ref (xB X 0)), (1, .int v1), (2, .int v2), (3, .int v3), (4, .int v4), (6, .int v6)]) hx hb dX9_tastesBy_148 hl (by decide) rfl (fun ls hl => ?_)
                  refine lv_iinc (v := (v6 + (2 : Int32))) (lv' := [(6, .int (v6 + (2 : Int32))), (5, .int (0 : Int32)), (7, .int t0), (0, .ref (xB X 0)), (1, .int v1), (2, .int v2), (3, .int v3), (4, .int v4)]) hx hb dX9_tastesBy_150 hl (k := 7) rfl rfl (by decide) rfl (fun ls hl => ?_)
                  refine lv_goto (tgt := 73) hx hb dX9_tastesBy_153 (by decide) ?_
                  exact ih73 v1 v2 v3 v4 (0 : Int32) (v6 + (2 : Int32)) mi ma _ _ ls (lv_sub hl [3, 4, 5, 6, 7, 1, 0] rfl) hP hS h
                · replace h := if_t c140 h
                  refine lv_iconst (v := 1) hx hb dX9_tastesBy_143 (by decide) ?_
                  refine lv_goto (tgt := 148) hx hb dX9_tastesBy_144 (by decide) ?_
                  refine lv_istore (lv' := [(5, .int (1 : Int32)), (7, .int t0), (0, .ref (xB X 0)), (1, .int v1), (2, .int v2), (3, .int v3), (4, .int v4), (6, .int v6)]) hx hb dX9_tastesBy_148 hl (by decide) rfl (fun ls hl => ?_)
                  refine lv_iinc (v := (v6 + (2 : Int32))) (lv' := [(6, .int (v6 + (2 : Int32))), (5, .int (1 : Int32)), (7, .int t0), (0, .ref (xB X 0)), (1, .int v1), (2, .int v2), (3, .int v3), (4, .int v4)]) hx hb dX9_tastesBy_150 hl (k := 7) rfl rfl (by decide) rfl (fun ls hl => ?_)
                  refine lv_goto (tgt := 73) hx hb dX9_tastesBy_153 (by decide) ?_
                  exact ih73 v1 v2 v3 v4 (1 : Int32) (v6 + (2 : Int32)) mi ma _ _ ls (lv_sub hl [3, 4, 5, 6, 7, 1, 0] rfl) hP hS h
              · replace h := if_t c132 h
                refine lv_iconst (v := 1) hx hb dX9_tastesBy_135 (by decide) ?_
                refine lv_goto (tgt := 140) hx hb dX9_tastesBy_136 (by decide) ?_
                refine lv_icmp_ne (tgt := 147) hx hb dX9_tastesBy_140 (by decide) (fun c140 => ?_) (fun c140 => ?_)
                · replace h := if_f c140 h
                  refine lv_iconst (v := 0) hx hb dX9_tastesBy_147 (by decide) ?_
                  refine lv_istore (lv' := [(5, .int (0 : Int32)), (7, .int t0), (0, .ref (xB X 0)), (1, .int v1), (2, .int v2), (3, .int v3), (4, .int v4), (6, .int v6)]) hx hb dX9_tastesBy_148 hl (by decide) rfl (fun ls hl => ?_)
                  refine lv_iinc (v := (v6 + (2 : Int32))) (lv' := [(6, .int (v6 + (2 : Int32))), (5, .int (0 : Int32)), (7, .int t0), (0, .ref (xB X 0)), (1, .int v1), (2, .int v2), (3, .int v3), (4, .int v4)]) hx hb dX9_tastesBy_150 hl (k := 7) rfl rfl (by decide) rfl (fun ls hl => ?_)
                  refine lv_goto (tgt := 73) hx hb dX9_tastesBy_153 (by decide) ?_
                  exact ih73 v1 v2 v3 v4 (0 : Int32) (v6 + (2 : Int32)) mi ma _ _ ls (lv_sub hl [3, 4, 5, 6, 7, 1, 0] rfl) hP hS h
                · replace h := if_t c140 h
                  refine lv_iconst (v := 1) hx hb dX9_tastesBy_143 (by decide) ?_
                  refine lv_goto (tgt := 148) hx hb dX9_tastesBy_144 (by decide) ?_
                  refine lv_istore (lv' := [(5, .int (1 : Int32)), (7, .int t0), (0, .ref (xB X 0)), (1, .int v1), (2, .int v2), (3, .int v3), (4, .int v4), (6, .int v6)]) hx hb dX9_tastesBy_148 hl (by decide) rfl (fun ls hl => ?_)
                  refine lv_iinc (v := (v6 + (2 : Int32))) (lv' := [(6, .int (v6 + (2 : Int32))), (5, .int (1 : Int32)), (7, .int t0), (0, .ref (xB X 0)), (1, .int v1), (2, .int v2), (3, .int v3), (4, .int v4)]) hx hb dX9_tastesBy_150 hl (k := 7) rfl rfl (by decide) rfl (fun ls hl => ?_)
                  refine lv_goto (tgt := 73) hx hb dX9_tastesBy_153 (by decide) ?_
                  exact ih73 v1 v2 v3 v4 (1 : Int32) (v6 + (2 : Int32)) mi ma _ _ ls (lv_sub hl [3, 4, 5, 6, 7, 1, 0] rfl) hP hS h
          refine lv_iload hx hb dX9_tastesBy_73 (lv_at hl 6 rfl) ?_
          refine lv_aload_n hx hb dX9_tastesBy_75 rfl (lv_at hl 0 rfl) ?_
          refine rg_M_rowSize hx hb hT hown hK hP w_796 dX9_tastesBy_76 ?_
          refine lv_iload_n hx hb dX9_tastesBy_79 rfl (lv_at hl 1 rfl) ?_
          obtain ⟨hi80, h⟩ := gd_e h
          refine ra_m10 hx hb hK hP (ib_in hi80) dX9_tastesBy_80 ?_
          refine lv_icmp_ge (tgt := 156) hx hb dX9_tastesBy_81 (by decide) (fun c81 => ?_) (fun c81 => ?_)
          · replace h := if_t c81 h
            refine lv_iload_n hx hb dX9_tastesBy_156 rfl (lv_at hl 3 rfl) ?_
            refine lv_iload hx hb dX9_tastesBy_157 (lv_at hl 5 rfl) ?_
            refine lv_if_eq (tgt := 169) hx hb dX9_tastesBy_159 (by decide) (fun c159 => ?_) (fun c159 => ?_)
            · replace h := if_t c159 h
              refine lv_iconst (v := 0) hx hb dX9_tastesBy_169 (by decide) ?_
              refine lv_ior hx hb dX9_tastesBy_170 ?_
              refine lv_istore_n (lv' := [(3, .int (v3 ||| (0 : Int32))), (0, .ref (xB X 0)), (1, .int v1), (2, .int v2), (4, .int v4), (5, .int v5), (6, .int v6)]) hx hb dX9_tastesBy_171 rfl hl (by decide) rfl (fun ls hl => ?_)
              refine lv_iinc (v := (v4 + (1 : Int32))) (lv' := [(4, .int (v4 + (1 : Int32))), (3, .int (v3 ||| (0 : Int32))), (0, .ref (xB X 0)), (1, .int v1), (2, .int v2), (5, .int v5), (6, .int v6)]) hx hb dX9_tastesBy_172 hl (k := 4) rfl rfl (by decide) rfl (fun ls hl => ?_)
              refine lv_goto (tgt := 60) hx hb dX9_tastesBy_175 (by decide) ?_
              exact ih60 v1 v2 (v3 ||| (0 : Int32)) (v4 + (1 : Int32)) mi ma _ _ ls (lv_sub hl [2, 3, 4, 1, 0] rfl) hP hS h
            · replace h := if_f c159 h
              refine lv_iconst (v := 1) hx hb dX9_tastesBy_162 (by decide) ?_
              refine lv_iload hx hb dX9_tastesBy_163 (lv_at hl 4 rfl) ?_
              refine lv_ishl hx hb dX9_tastesBy_165 ?_
              refine lv_goto (tgt := 170) hx hb dX9_tastesBy_166 (by decide) ?_
              refine lv_ior hx hb dX9_tastesBy_170 ?_
              refine lv_istore_n (lv' := [(3, .int (v3 ||| ((1 : Int32) <<< (v4 &&& 31)))), (0, .ref (xB X 0)), (1, .int v1), (2, .int v2), (4, .int v4), (5, .int v5), (6, .int v6)]) hx hb dX9_tastesBy_171 rfl hl (by decide) rfl (fun ls hl => ?_)
              refine lv_iinc (v := (v4 + (1 : Int32))) (lv' := [(4, .int (v4 + (1 : Int32))), (3, .int (v3 ||| ((1 : Int32) <<< (v4 &&& 31)))), (0, .ref (xB X 0)), (1, .int v1), (2, .int v2), (5, .int v5), (6, .int v6)]) hx hb dX9_tastesBy_172 hl (k := 4) rfl rfl (by decide) rfl (fun ls hl => ?_)
              refine lv_goto (tgt := 60) hx hb dX9_tastesBy_175 (by decide) ?_
              exact ih60 v1 v2 (v3 ||| ((1 : Int32) <<< (v4 &&& 31))) (v4 + (1 : Int32)) mi ma _ _ ls (lv_sub hl [2, 3, 4, 1, 0] rfl) hP hS h
          · replace h := if_f c81 h
            refine lv_aload_n hx hb dX9_tastesBy_84 rfl (lv_at hl 0 rfl) ?_
            refine rg_M_rows hx hb hT hown hK hP w_797 dX9_tastesBy_85 ?_
            refine lv_bipush (v := 40) hx hb dX9_tastesBy_88 (by decide) ?_
            refine lv_iload_n hx hb dX9_tastesBy_90 rfl (lv_at hl 1 rfl) ?_
            refine lv_imul hx hb dX9_tastesBy_91 ?_
            refine lv_iload hx hb dX9_tastesBy_92 (lv_at hl 6 rfl) ?_
            refine lv_iadd hx hb dX9_tastesBy_94 ?_
            obtain ⟨hi95, h⟩ := gd_e h
            refine ra_m11 hx hb hK hP (ib_in hi95) dX9_tastesBy_95 ?_
            refine lv_iload hx hb dX9_tastesBy_96 (lv_at hl 4 rfl) ?_
            refine lv_iload_n hx hb dX9_tastesBy_98 rfl (lv_at hl 2 rfl) ?_
            refine lv_iadd hx hb dX9_tastesBy_99 ?_
            refine lv_icmp_lt (tgt := 107) hx hb dX9_tastesBy_100 (by decide) (fun c100 => ?_) (fun c100 => ?_)
            · replace h := if_t c100 h
              refine lv_iconst (v := 0) hx hb dX9_tastesBy_107 (by decide) ?_
              exact hL108 v1 v2 v3 v4 v5 v6 (0 : Int32) mi ma _ _ ls (lv_sub hl [0, 1, 2, 3, 4, 5, 6] rfl) hP hS h
            · replace h := if_f c100 h
              refine lv_iconst (v := 1) hx hb dX9_tastesBy_103 (by decide) ?_
              refine lv_goto (tgt := 108) hx hb dX9_tastesBy_104 (by decide) ?_
              exact hL108 v1 v2 v3 v4 v5 v6 (1 : Int32) mi ma _ _ ls (lv_sub hl [0, 1, 2, 3, 4, 5, 6] rfl) hP hS h
      refine lv_iload hx hb dX9_tastesBy_60 (lv_at hl 4 rfl) ?_
      refine lv_bipush (v := 9) hx hb dX9_tastesBy_62 (by decide) ?_
      refine lv_icmp_ge (tgt := 178) hx hb dX9_tastesBy_64 (by decide) (fun c64 => ?_) (fun c64 => ?_)
      · replace h := if_t c64 h
        refine lv_iload_n hx hb dX9_tastesBy_178 rfl (lv_at hl 3 rfl) ?_
        cases h
        exact W.iret hx hb hr (fun t ht _ => ⟨rfl, by rw [ht]; exact hP, hS.F ht⟩) hS.2.2 dX9_tastesBy_179
      · replace h := if_f c64 h
        refine lv_iconst (v := 1) hx hb dX9_tastesBy_67 (by decide) ?_
        refine lv_istore (lv' := [(5, .int (1 : Int32)), (0, .ref (xB X 0)), (1, .int v1), (2, .int v2), (3, .int v3), (4, .int v4)]) hx hb dX9_tastesBy_68 hl (by decide) rfl (fun ls hl => ?_)
        refine lv_iconst (v := 0) hx hb dX9_tastesBy_70 (by decide) ?_
        refine lv_istore (lv' := [(6, .int (0 : Int32)), (5, .int (1 : Int32)), (0, .ref (xB X 0)), (1, .int v1), (2, .int v2), (3, .int v3), (4, .int v4)]) hx hb dX9_tastesBy_71 hl (by decide) rfl (fun ls hl => ?_)
        exact hL73 500 v1 v2 v3 v4 (1 : Int32) (0 : Int32) mi ma _ _ ls (lv_sub hl [2, 3, 4, 5, 6, 1, 0] rfl) hP hS h
  rw [X9_tastesBy] at h
  refine lv_iload_n hx hb dX9_tastesBy_0 rfl (lv_at hl 1 rfl) ?_
  obtain ⟨r1, hc1, h⟩ := Option.bind_eq_some_iff.mp h
  refine rcS (As := [.int a1]) (rest := []) ⟨hx, hb, hml, hown, hts⟩ (c_X9_isRow l a1 hc1) ⟨w_908, w_909, w_58, w_910⟩ hd_X9_isRow rfl rfl ⟨(Nat.le_of_ble_eq_true rfl), (Nat.le_of_ble_eq_true rfl)⟩ ⟨Nat.zero_le _, Nat.zero_le _⟩ (fun _ _ _ _ h => h) (fun _ _ _ => trivial) rfl rfl hl.1 (Nat.le_of_ble_eq_true rfl) dX9_tastesBy_1 ?_
  refine lv_if_ne (tgt := 9) hx hb dX9_tastesBy_4 (by decide) (fun c4 => ?_) (fun c4 => ?_)
  · replace h := if_f c4 h
    refine lv_aload_n hx hb dX9_tastesBy_9 rfl (lv_at hl 0 rfl) ?_
    refine rg_M_rowSize hx hb hT hown hK hP w_796 dX9_tastesBy_10 ?_
    refine lv_iload_n hx hb dX9_tastesBy_13 rfl (lv_at hl 1 rfl) ?_
    obtain ⟨hi14, h⟩ := gd_e h
    refine ra_m10 hx hb hK hP (ib_in hi14) dX9_tastesBy_14 ?_
    refine lv_if_ge (tgt := 24) hx hb dX9_tastesBy_15 (by decide) (fun c15 => ?_) (fun c15 => ?_)
    · replace h := if_t c15 h
      refine lv_aload_n hx hb dX9_tastesBy_24 rfl (lv_at hl 0 rfl) ?_
      refine rg_M_rowSize hx hb hT hown hK hP w_796 dX9_tastesBy_25 ?_
      refine lv_iload_n hx hb dX9_tastesBy_28 rfl (lv_at hl 1 rfl) ?_
      obtain ⟨hi29, h⟩ := gd_e h
      refine ra_m10 hx hb hK hP (ib_in hi29) dX9_tastesBy_29 ?_
      refine lv_iconst (v := 2) hx hb dX9_tastesBy_30 (by decide) ?_
      obtain ⟨hne31, h⟩ := gn_e h
      refine lv_irem hx hb dX9_tastesBy_31 hne31 ?_
      refine lv_if_eq (tgt := 41) hx hb dX9_tastesBy_32 (by decide) (fun c32 => ?_) (fun c32 => ?_)
      · replace h := if_t c32 h
        refine lv_aload_n hx hb dX9_tastesBy_41 rfl (lv_at hl 0 rfl) ?_
        refine lv_iload_n hx hb dX9_tastesBy_42 rfl (lv_at hl 1 rfl) ?_
        obtain ⟨r43, hc43, h⟩ := Option.bind_eq_some_iff.mp h
        refine rcV (As := [.int a1]) (rest := []) ⟨hx, hb, hml, hown, hts⟩ (c_X9_arePairs l X mi ml ma mb a1 hc43) ⟨w_1237, w_1239, w_48, w_58, w_1240⟩ hd_X9_arePairs rfl rfl ⟨(Nat.le_of_ble_eq_true rfl), (Nat.le_of_ble_eq_true rfl)⟩ ⟨Nat.zero_le _, Nat.zero_le _⟩ mPre_blind (va_recv hK hP (ci := 5) rfl cM_o) (mPre_call hP hK hN) rfl rfl hl.1 (Nat.le_of_ble_eq_true rfl) dX9_tastesBy_43 ?_
        refine lv_if_ne (tgt := 55) hx hb dX9_tastesBy_46 (by decide) (fun c46 => ?_) (fun c46 => ?_)
        · replace h := if_f c46 h
          refine lv_iconst (v := 0) hx hb dX9_tastesBy_55 (by decide) ?_
          refine lv_istore_n (lv' := [(3, .int (0 : Int32)), (0, .ref (xB X 0)), (1, .int a1), (2, .int a2)]) hx hb dX9_tastesBy_56 rfl hl (by decide) rfl (fun ls hl => ?_)
          refine lv_iconst (v := 1) hx hb dX9_tastesBy_57 (by decide) ?_
          refine lv_istore (lv' := [(4, .int (1 : Int32)), (3, .int (0 : Int32)), (0, .ref (xB X 0)), (1, .int a1), (2, .int a2)]) hx hb dX9_tastesBy_58 hl (by decide) rfl (fun ls hl => ?_)
          exact hL60 500 a1 a2 (0 : Int32) (1 : Int32) mi ma _ _ ls (lv_sub hl [2, 3, 4, 1, 0] rfl) hP hS h
        · replace h := if_t c46 h
          refine lv_aload_n hx hb dX9_tastesBy_49 rfl (lv_at hl 0 rfl) ?_
          refine lv_iconst (v := 3) hx hb dX9_tastesBy_50 (by decide) ?_
          obtain ⟨r51, mi_51, ma_51, hc51, h⟩ := bd3_e h
          refine wcV (As := [.int (3 : Int32)]) (rest := []) ⟨hx, hb, hml, hown, hts⟩ (c_X9_finds l X mi ml ma mb (3 : Int32) hc51) ⟨w_915, w_917, w_12, w_58, w_918⟩ hd_X9_finds rfl rfl ⟨(Nat.le_of_ble_eq_true rfl), (Nat.le_of_ble_eq_true rfl)⟩ ⟨Nat.zero_le _, Nat.zero_le _⟩ mPre_blind (va_recv hK hP (ci := 5) rfl cM_o) (mPre_call hP hK hN) hS (fun _ h => h) rfl rfl hl.1 (Nat.le_of_ble_eq_true rfl) dX9_tastesBy_51 (fun H locs hP _ hS => ?_)
          have hP : va_P X.1 vwCl (cM X mi_51 ml ma_51 mb) H := hP
          refine W.eq (g2 := F0 m 54 ls [.int r51]) rfl ?_
          cases h
          exact W.iret hx hb hr (fun t ht _ => ⟨rfl, by rw [ht]; exact hP, hS.F ht⟩) hS.2.2 dX9_tastesBy_54
      · replace h := if_f c32 h
        refine lv_aload_n hx hb dX9_tastesBy_35 rfl (lv_at hl 0 rfl) ?_
        refine lv_iconst (v := 5) hx hb dX9_tastesBy_36 (by decide) ?_
        obtain ⟨r37, mi_37, ma_37, hc37, h⟩ := bd3_e h
        refine wcV (As := [.int (5 : Int32)]) (rest := []) ⟨hx, hb, hml, hown, hts⟩ (c_X9_finds l X mi ml ma mb (5 : Int32) hc37) ⟨w_915, w_917, w_12, w_58, w_918⟩ hd_X9_finds rfl rfl ⟨(Nat.le_of_ble_eq_true rfl), (Nat.le_of_ble_eq_true rfl)⟩ ⟨Nat.zero_le _, Nat.zero_le _⟩ mPre_blind (va_recv hK hP (ci := 5) rfl cM_o) (mPre_call hP hK hN) hS (fun _ h => h) rfl rfl hl.1 (Nat.le_of_ble_eq_true rfl) dX9_tastesBy_37 (fun H locs hP _ hS => ?_)
        have hP : va_P X.1 vwCl (cM X mi_37 ml ma_37 mb) H := hP
        refine W.eq (g2 := F0 m 40 ls [.int r37]) rfl ?_
        cases h
        exact W.iret hx hb hr (fun t ht _ => ⟨rfl, by rw [ht]; exact hP, hS.F ht⟩) hS.2.2 dX9_tastesBy_40
    · replace h := if_f c15 h
      refine lv_aload_n hx hb dX9_tastesBy_18 rfl (lv_at hl 0 rfl) ?_
      refine lv_iconst (v := 1) hx hb dX9_tastesBy_19 (by decide) ?_
      obtain ⟨r20, mi_20, ma_20, hc20, h⟩ := bd3_e h
      refine wcV (As := [.int (1 : Int32)]) (rest := []) ⟨hx, hb, hml, hown, hts⟩ (c_X9_finds l X mi ml ma mb (1 : Int32) hc20) ⟨w_915, w_917, w_12, w_58, w_918⟩ hd_X9_finds rfl rfl ⟨(Nat.le_of_ble_eq_true rfl), (Nat.le_of_ble_eq_true rfl)⟩ ⟨Nat.zero_le _, Nat.zero_le _⟩ mPre_blind (va_recv hK hP (ci := 5) rfl cM_o) (mPre_call hP hK hN) hS (fun _ h => h) rfl rfl hl.1 (Nat.le_of_ble_eq_true rfl) dX9_tastesBy_20 (fun H locs hP _ hS => ?_)
      have hP : va_P X.1 vwCl (cM X mi_20 ml ma_20 mb) H := hP
      refine W.eq (g2 := F0 m 23 ls [.int r20]) rfl ?_
      cases h
      exact W.iret hx hb hr (fun t ht _ => ⟨rfl, by rw [ht]; exact hP, hS.F ht⟩) hS.2.2 dX9_tastesBy_23
  · replace h := if_t c4 h
    refine lv_iconst (v := -1) hx hb dX9_tastesBy_7 (by decide) ?_
    cases h
    exact W.iret hx hb hr (fun t ht _ => ⟨rfl, by rw [ht]; exact hP, hS.F ht⟩) hS.2.2 dX9_tastesBy_8
set_option maxRecDepth 100000 in
set_option maxHeartbeats 4000000 in
theorem c_X9_tastes (l : Launch) (X : gX) (mi : Nat → Int32) (ml : Nat → Int64) (ma : Nat → Nat → Int32) (mb : Nat → Nat → Int64) (a1 : Int32) {o0 : Int32} {o_mi : Nat → Int32} {o_ma : Nat → Nat → Int32} (h : X9_tastes a1 mi ma = some (o0, o_mi, o_ma)) : Met l yX9_tastes (Cond.code yX9_tastes cX9_tastes 2 (some .int) :: gT) { frames := 3, cells := 0, slots := 0, locals := 75 } (va_Pc [.ref (xB X 0), .int a1] (mPre X mi ml ma mb)) (wQ (some (.int o0)) (fun H => va_P X.1 vwCl (cM X o_mi ml o_ma mb) H) (mA X)) 0 0 (mA X) := by
  refine Met.ofW (cc := cX9_tastes) (maxL := 2) (ret := (some .int)) (by decide) rfl ?_
  intro p e s m args below meth c s₁ B hml hv
  obtain ⟨rfl, hP, hK, hN⟩ := hv
  have hx := B.exec
  have hb := B.bytes
  have hr := B.returns
  have hts := atoms_spec (ws := (Cond.code yX9_tastes cX9_tastes 2 (some .int) :: gT)) B.pre
  have hT : ∀ w ∈ gT, w.before _ s = true := fun w hw => hts w (List.mem_cons_of_mem _ hw)
  have hown : s.vm.findClass RX9 = some m.cls := findClass_of_methodNamed B.named
  have hlocks := B.notSynchronized
  have hS : va_S (mA X) s.heap s.heap [] := va_S.rf
  have hl := lv_entry ([.ref (xB X 0), .int a1]) (n := 2) (Nat.le_of_ble_eq_true rfl)
  rw [lg_entry_eq]
  generalize (lg_sl ([.ref (xB X 0), .int a1]) ++ List.replicate (2 - (lg_sl ([.ref (xB X 0), .int a1])).length) Slot.unset).toArray = ls at hl ⊢
  have hl : lv_has ls 2 [(0, .ref (xB X 0)), (1, .int a1)] := hl
  rw [X9_tastes] at h
  refine lv_aload_n hx hb dX9_tastes_0 rfl (lv_at hl 0 rfl) ?_
  refine lv_iload_n hx hb dX9_tastes_1 rfl (lv_at hl 1 rfl) ?_
  refine lv_iconst (v := 0) hx hb dX9_tastes_2 (by decide) ?_
  obtain ⟨r3, mi_3, ma_3, hc3, h⟩ := bd3_e h
  refine wcV (As := [.int a1, .int (0 : Int32)]) (rest := []) ⟨hx, hb, hml, hown, hts⟩ (c_X9_tastesBy l X mi ml ma mb a1 (0 : Int32) hc3) ⟨w_1233, w_1235, w_47, w_58, w_1236⟩ hd_X9_tastesBy rfl rfl ⟨(Nat.le_of_ble_eq_true rfl), (Nat.le_of_ble_eq_true rfl)⟩ ⟨Nat.zero_le _, Nat.zero_le _⟩ mPre_blind (va_recv hK hP (ci := 5) rfl cM_o) (mPre_call hP hK hN) hS (fun _ h => h) rfl rfl hl.1 (Nat.le_of_ble_eq_true rfl) dX9_tastes_3 (fun H locs hP _ hS => ?_)
  have hP : va_P X.1 vwCl (cM X mi_3 ml ma_3 mb) H := hP
  refine W.eq (g2 := F0 m 6 ls [.int r3]) rfl ?_
  cases h
  exact W.iret hx hb hr (fun t ht _ => ⟨rfl, by rw [ht]; exact hP, hS.F ht⟩) hS.2.2 dX9_tastes_6
set_option maxRecDepth 100000 in
set_option maxHeartbeats 4000000 in
theorem c_X9_sour (l : Launch) (X : gX) (mi : Nat → Int32) (ml : Nat → Int64) (ma : Nat → Nat → Int32) (mb : Nat → Nat → Int64) (a1 : Int32) {o0 : Int32} {o_mi : Nat → Int32} {o_ma : Nat → Nat → Int32} (h : X9_sour a1 mi ma = some (o0, o_mi, o_ma)) : Met l yX9_sour (Cond.code yX9_sour cX9_sour 2 (some .int) :: gT) { frames := 3, cells := 0, slots := 0, locals := 75 } (va_Pc [.ref (xB X 0), .int a1] (mPre X mi ml ma mb)) (wQ (some (.int o0)) (fun H => va_P X.1 vwCl (cM X o_mi ml o_ma mb) H) (mA X)) 0 0 (mA X) := by
  refine Met.ofW (cc := cX9_sour) (maxL := 2) (ret := (some .int)) (by decide) rfl ?_
  intro p e s m args below meth c s₁ B hml hv
  obtain ⟨rfl, hP, hK, hN⟩ := hv
  have hx := B.exec
  have hb := B.bytes
  have hr := B.returns
  have hts := atoms_spec (ws := (Cond.code yX9_sour cX9_sour 2 (some .int) :: gT)) B.pre
  have hT : ∀ w ∈ gT, w.before _ s = true := fun w hw => hts w (List.mem_cons_of_mem _ hw)
  have hown : s.vm.findClass RX9 = some m.cls := findClass_of_methodNamed B.named
  have hlocks := B.notSynchronized
  have hS : va_S (mA X) s.heap s.heap [] := va_S.rf
  have hl := lv_entry ([.ref (xB X 0), .int a1]) (n := 2) (Nat.le_of_ble_eq_true rfl)
  rw [lg_entry_eq]
  generalize (lg_sl ([.ref (xB X 0), .int a1]) ++ List.replicate (2 - (lg_sl ([.ref (xB X 0), .int a1])).length) Slot.unset).toArray = ls at hl ⊢
  have hl : lv_has ls 2 [(0, .ref (xB X 0)), (1, .int a1)] := hl
  rw [X9_sour] at h
  refine lv_aload_n hx hb dX9_sour_0 rfl (lv_at hl 0 rfl) ?_
  refine lv_iload_n hx hb dX9_sour_1 rfl (lv_at hl 1 rfl) ?_
  refine lv_iconst (v := 1) hx hb dX9_sour_2 (by decide) ?_
  obtain ⟨r3, mi_3, ma_3, hc3, h⟩ := bd3_e h
  refine wcV (As := [.int a1, .int (1 : Int32)]) (rest := []) ⟨hx, hb, hml, hown, hts⟩ (c_X9_tastesBy l X mi ml ma mb a1 (1 : Int32) hc3) ⟨w_1233, w_1235, w_47, w_58, w_1236⟩ hd_X9_tastesBy rfl rfl ⟨(Nat.le_of_ble_eq_true rfl), (Nat.le_of_ble_eq_true rfl)⟩ ⟨Nat.zero_le _, Nat.zero_le _⟩ mPre_blind (va_recv hK hP (ci := 5) rfl cM_o) (mPre_call hP hK hN) hS (fun _ h => h) rfl rfl hl.1 (Nat.le_of_ble_eq_true rfl) dX9_sour_3 (fun H locs hP _ hS => ?_)
  have hP : va_P X.1 vwCl (cM X mi_3 ml ma_3 mb) H := hP
  refine W.eq (g2 := F0 m 6 ls [.int r3]) rfl ?_
  cases h
  exact W.iret hx hb hr (fun t ht _ => ⟨rfl, by rw [ht]; exact hP, hS.F ht⟩) hS.2.2 dX9_sour_6
set_option maxRecDepth 100000 in
set_option maxHeartbeats 4000000 in
theorem c_X9_touchAt (l : Launch) (X : gX) (mi : Nat → Int32) (ml : Nat → Int64) (ma : Nat → Nat → Int32) (mb : Nat → Nat → Int64) (a1 : Int32) {o_mi : Nat → Int32} {o_ma : Nat → Nat → Int32} (h : X9_touchAt a1 mi ma = some (o_mi, o_ma)) : Met l yX9_touchAt (Cond.code yX9_touchAt cX9_touchAt 11 none :: gT) { frames := 3, cells := 0, slots := 0, locals := 69 } (va_Pc [.ref (xB X 0), .int a1] (mPre X mi ml ma mb)) (wQ none (fun H => va_P X.1 vwCl (cM X o_mi ml o_ma mb) H) (mA X)) 0 0 (mA X) := by
  refine Met.ofW (cc := cX9_touchAt) (maxL := 11) (ret := none) (by decide) rfl ?_
  intro p e s m args below meth c s₁ B hml hv
  obtain ⟨rfl, hP, hK, hN⟩ := hv
  have hx := B.exec
  have hb := B.bytes
  have hr := B.returns
  have hts := atoms_spec (ws := (Cond.code yX9_touchAt cX9_touchAt 11 none :: gT)) B.pre
  have hT : ∀ w ∈ gT, w.before _ s = true := fun w hw => hts w (List.mem_cons_of_mem _ hw)
  have hown : s.vm.findClass RX9 = some m.cls := findClass_of_methodNamed B.named
  have hlocks := B.notSynchronized
  have hS : va_S (mA X) s.heap s.heap [] := va_S.rf
  have hl := lv_entry ([.ref (xB X 0), .int a1]) (n := 11) (Nat.le_of_ble_eq_true rfl)
  rw [lg_entry_eq]
  generalize (lg_sl ([.ref (xB X 0), .int a1]) ++ List.replicate (11 - (lg_sl ([.ref (xB X 0), .int a1])).length) Slot.unset).toArray = ls at hl ⊢
  have hl : lv_has ls 11 [(0, .ref (xB X 0)), (1, .int a1)] := hl
  have hL173 : ∀ (v4 : Int32) (v6 : Int32) (v8 : Int32) (mi : Nat → Int32) (ma : Nat → Nat → Int32) (H : Heap) (locs : List Loc) (ls : Array Slot), lv_has ls 11 [(0, .ref (xB X 0)), (4, .int v4), (6, .int v6), (8, .int v8)] → va_P X.1 vwCl (cM X mi ml ma mb) H → va_S (mA X) s.heap H locs → X9_touchAt_173 v4 v6 v8 mi ma = some (o_mi, o_ma) → W p l e (headSpec (Cond.code yX9_touchAt cX9_touchAt 11 none :: gT) { frames := 3, cells := 0, slots := 0, locals := 69 }).room s m [.ref (xB X 0), .int a1].toArray below meth c H locs 0 0 (MQ below (wQ none (fun H => va_P X.1 vwCl (cM X o_mi ml o_ma mb) H) (mA X)) [.ref (xB X 0), .int a1].toArray s 0 0 (mA X)) (F0 m 173 ls []) := by
    intro v4 v6 v8 mi ma H locs ls hl hP hS h
    rw [X9_touchAt_173] at h
    refine lv_aload_n hx hb dX9_touchAt_173 rfl (lv_at hl 0 rfl) ?_
    refine lv_iload hx hb dX9_touchAt_174 (lv_at hl 1 rfl) ?_
    refine lv_iload hx hb dX9_touchAt_176 (lv_at hl 2 rfl) ?_
    refine lv_iload hx hb dX9_touchAt_178 (lv_at hl 3 rfl) ?_
    refine lv_aload_n hx hb dX9_touchAt_180 rfl (lv_at hl 0 rfl) ?_
    refine rg_M_people hx hb hT hown hK hP w_779 dX9_touchAt_181 ?_
    refine lv_icmp_ne (tgt := 192) hx hb dX9_touchAt_184 (by decide) (fun c184 => ?_) (fun c184 => ?_)
    · replace h := if_f c184 h
      refine lv_iload hx hb dX9_touchAt_192 (lv_at hl 3 rfl) ?_
      obtain ⟨r194, mi_194, ma_194, hc194, h⟩ := bd3_e h
      refine wcV (As := [.int v4, .int v6, .int v8]) (rest := []) ⟨hx, hb, hml, hown, hts⟩ (c_X9_touch l X mi ml ma mb v4 v6 v8 hc194) ⟨w_1257, w_1052, w_1053, w_58, w_1054⟩ hd_X9_touch rfl rfl ⟨(Nat.le_of_ble_eq_true rfl), (Nat.le_of_ble_eq_true rfl)⟩ ⟨Nat.zero_le _, Nat.zero_le _⟩ mPre_blind (va_recv hK hP (ci := 5) rfl cM_o) (mPre_call hP hK hN) hS (fun _ h => h) rfl rfl hl.1 (Nat.le_of_ble_eq_true rfl) dX9_touchAt_194 (fun H locs hP _ hS => ?_)
      have hP : va_P X.1 vwCl (cM X mi_194 ml ma_194 mb) H := hP
      refine W.eq (g2 := F0 m 197 ls [.int r194]) rfl ?_
      refine lv_istore (lv' := [(10, .int r194), (0, .ref (xB X 0)), (4, .int v4), (6, .int v6), (8, .int v8)]) hx hb dX9_touchAt_197 hl (by decide) rfl (fun ls hl => ?_)
      cases h
      exact W.vret hx hb hr (fun t ht _ => ⟨rfl, by rw [ht]; exact hP, hS.F ht⟩) hS.2.2 dX9_touchAt_199
    · replace h := if_t c184 h
      refine lv_bipush (v := 9) hx hb dX9_touchAt_187 (by decide) ?_
      refine lv_goto (tgt := 194) hx hb dX9_touchAt_189 (by decide) ?_
      obtain ⟨r194, mi_194, ma_194, hc194, h⟩ := bd3_e h
      refine wcV (As := [.int v4, .int v6, .int (9 : Int32)]) (rest := []) ⟨hx, hb, hml, hown, hts⟩ (c_X9_touch l X mi ml ma mb v4 v6 (9 : Int32) hc194) ⟨w_1257, w_1052, w_1053, w_58, w_1054⟩ hd_X9_touch rfl rfl ⟨(Nat.le_of_ble_eq_true rfl), (Nat.le_of_ble_eq_true rfl)⟩ ⟨Nat.zero_le _, Nat.zero_le _⟩ mPre_blind (va_recv hK hP (ci := 5) rfl cM_o) (mPre_call hP hK hN) hS (fun _ h => h) rfl rfl hl.1 (Nat.le_of_ble_eq_true rfl) dX9_touchAt_194 (fun H locs hP _ hS => ?_)
      have hP : va_P X.1 vwCl (cM X mi_194 ml ma_194 mb) H := hP
      refine W.eq (g2 := F0 m 197 ls [.int r194]) rfl ?_
      refine lv_istore (lv' := [(10, .int r194), (0, .ref (xB X 0)), (4, .int v4), (6, .int v6), (8, .int v8)]) hx hb dX9_touchAt_197 hl (by decide) rfl (fun ls hl => ?_)
      cases h
      exact W.vret hx hb hr (fun t ht _ => ⟨rfl, by rw [ht]; exact hP, hS.F ht⟩) hS.2.2 dX9_touchAt_199
  have hL123 : ∀ (n123 : Nat) (v4 : Int32) (v6 : Int32) (v7 : Int32) (v8 : Int32) (v9 : Int32) (mi : Nat → Int32) (ma : Nat → Nat → Int32) (H : Heap) (locs : List Loc) (ls : Array Slot), lv_has ls 11 [(0, .ref (xB X 0)), (4, .int v4), (6, .int v6), (7, .int v7), (8, .int v8), (9, .int v9)] → va_P X.1 vwCl (cM X mi ml ma mb) H → va_S (mA X) s.heap H locs → X9_touchAt_123 n123 v4 v6 v7 v8 v9 mi ma = some (o_mi, o_ma) → W p l e (headSpec (Cond.code yX9_touchAt cX9_touchAt 11 none :: gT) { frames := 3, cells := 0, slots := 0, locals := 69 }).room s m [.ref (xB X 0), .int a1].toArray below meth c H locs 0 0 (MQ below (wQ none (fun H => va_P X.1 vwCl (cM X o_mi ml o_ma mb) H) (mA X)) [.ref (xB X 0), .int a1].toArray s 0 0 (mA X)) (F0 m 123 ls []) := by
    intro n123
    induction n123 with
    | zero =>
      intro v4 v6 v7 v8 v9 mi ma H locs ls hl hP hS h
      rw [X9_touchAt_123] at h
      cases h
    | succ n123 ih123 =>
      intro v4 v6 v7 v8 v9 mi ma H locs ls hl hP hS h
      rw [X9_touchAt_123] at h
      have hL147 : ∀ (v4 : Int32) (v6 : Int32) (v7 : Int32) (v8 : Int32) (v9 : Int32) (mi : Nat → Int32) (ma : Nat → Nat → Int32) (H : Heap) (locs : List Loc) (ls : Array Slot), lv_has ls 11 [(0, .ref (xB X 0)), (4, .int v4), (6, .int v6), (7, .int v7), (8, .int v8), (9, .int v9)] → va_P X.1 vwCl (cM X mi ml ma mb) H → va_S (mA X) s.heap H locs → X9_touchAt_147 (X9_touchAt_123 n123) v4 v6 v7 v8 v9 mi ma = some (o_mi, o_ma) → W p l e (headSpec (Cond.code yX9_touchAt cX9_touchAt 11 none :: gT) { frames := 3, cells := 0, slots := 0, locals := 69 }).room s m [.ref (xB X 0), .int a1].toArray below meth c H locs 0 0 (MQ below (wQ none (fun H => va_P X.1 vwCl (cM X o_mi ml o_ma mb) H) (mA X)) [.ref (xB X 0), .int a1].toArray s 0 0 (mA X)) (F0 m 147 ls []) := by
        intro v4 v6 v7 v8 v9 mi ma H locs ls hl hP hS h
        rw [X9_touchAt_147] at h
        refine lv_iload hx hb dX9_touchAt_147 (lv_at hl 3 rfl) ?_
        refine lv_iload hx hb dX9_touchAt_149 (lv_at hl 5 rfl) ?_
        refine lv_iload hx hb dX9_touchAt_151 (lv_at hl 4 rfl) ?_
        obtain ⟨r153, hc153, h⟩ := Option.bind_eq_some_iff.mp h
        refine rcS (As := [.int v9, .int v8]) (rest := [.int v7]) ⟨hx, hb, hml, hown, hts⟩ (c_X9_has l v9 v8 hc153) ⟨w_1104, w_1105, w_58, w_1106⟩ hd_X9_has rfl rfl ⟨(Nat.le_of_ble_eq_true rfl), (Nat.le_of_ble_eq_true rfl)⟩ ⟨Nat.zero_le _, Nat.zero_le _⟩ (fun _ _ _ _ h => h) (fun _ _ _ => trivial) rfl rfl hl.1 (Nat.le_of_ble_eq_true rfl) dX9_touchAt_153 ?_
        refine lv_if_eq (tgt := 163) hx hb dX9_touchAt_156 (by decide) (fun c156 => ?_) (fun c156 => ?_)
        · replace h := if_t c156 h
          refine lv_iconst (v := 0) hx hb dX9_touchAt_163 (by decide) ?_
          refine lv_isub hx hb dX9_touchAt_164 ?_
          refine lv_istore (lv' := [(7, .int (v7 - (0 : Int32))), (0, .ref (xB X 0)), (4, .int v4), (6, .int v6), (8, .int v8), (9, .int v9)]) hx hb dX9_touchAt_165 hl (by decide) rfl (fun ls hl => ?_)
          refine lv_iinc (v := (v8 + (1 : Int32))) (lv' := [(8, .int (v8 + (1 : Int32))), (7, .int (v7 - (0 : Int32))), (0, .ref (xB X 0)), (4, .int v4), (6, .int v6), (9, .int v9)]) hx hb dX9_touchAt_167 hl (k := 4) rfl rfl (by decide) rfl (fun ls hl => ?_)
          refine lv_goto (tgt := 123) hx hb dX9_touchAt_170 (by decide) ?_
          exact ih123 v4 v6 (v7 - (0 : Int32)) (v8 + (1 : Int32)) v9 mi ma _ _ ls (lv_sub hl [2, 3, 4, 1, 0, 5] rfl) hP hS h
        · replace h := if_f c156 h
          refine lv_iconst (v := 1) hx hb dX9_touchAt_159 (by decide) ?_
          refine lv_goto (tgt := 164) hx hb dX9_touchAt_160 (by decide) ?_
          refine lv_isub hx hb dX9_touchAt_164 ?_
          refine lv_istore (lv' := [(7, .int (v7 - (1 : Int32))), (0, .ref (xB X 0)), (4, .int v4), (6, .int v6), (8, .int v8), (9, .int v9)]) hx hb dX9_touchAt_165 hl (by decide) rfl (fun ls hl => ?_)
          refine lv_iinc (v := (v8 + (1 : Int32))) (lv' := [(8, .int (v8 + (1 : Int32))), (7, .int (v7 - (1 : Int32))), (0, .ref (xB X 0)), (4, .int v4), (6, .int v6), (9, .int v9)]) hx hb dX9_touchAt_167 hl (k := 4) rfl rfl (by decide) rfl (fun ls hl => ?_)
          refine lv_goto (tgt := 123) hx hb dX9_touchAt_170 (by decide) ?_
          exact ih123 v4 v6 (v7 - (1 : Int32)) (v8 + (1 : Int32)) v9 mi ma _ _ ls (lv_sub hl [2, 3, 4, 1, 0, 5] rfl) hP hS h
      refine lv_iload hx hb dX9_touchAt_123 (lv_at hl 4 rfl) ?_
      refine lv_aload_n hx hb dX9_touchAt_125 rfl (lv_at hl 0 rfl) ?_
      refine rg_M_people hx hb hT hown hK hP w_779 dX9_touchAt_126 ?_
      refine lv_icmp_ge (tgt := 173) hx hb dX9_touchAt_129 (by decide) (fun c129 => ?_) (fun c129 => ?_)
      · replace h := if_t c129 h
        exact hL173 v4 v6 v8 mi ma _ _ ls (lv_sub hl [0, 1, 2, 4] rfl) hP hS h
      · replace h := if_f c129 h
        refine lv_iload hx hb dX9_touchAt_132 (lv_at hl 5 rfl) ?_
        refine lv_iload hx hb dX9_touchAt_134 (lv_at hl 4 rfl) ?_
        obtain ⟨r136, hc136, h⟩ := Option.bind_eq_some_iff.mp h
        refine rcS (As := [.int v9, .int v8]) (rest := []) ⟨hx, hb, hml, hown, hts⟩ (c_X9_has l v9 v8 hc136) ⟨w_1104, w_1105, w_58, w_1106⟩ hd_X9_has rfl rfl ⟨(Nat.le_of_ble_eq_true rfl), (Nat.le_of_ble_eq_true rfl)⟩ ⟨Nat.zero_le _, Nat.zero_le _⟩ (fun _ _ _ _ h => h) (fun _ _ _ => trivial) rfl rfl hl.1 (Nat.le_of_ble_eq_true rfl) dX9_touchAt_136 ?_
        refine lv_if_eq (tgt := 147) hx hb dX9_touchAt_139 (by decide) (fun c139 => ?_) (fun c139 => ?_)
        · replace h := if_t c139 h
          exact hL147 v4 v6 v7 v8 v9 mi ma _ _ ls (lv_sub hl [0, 1, 2, 3, 4, 5] rfl) hP hS h
        · replace h := if_f c139 h
          refine lv_iload hx hb dX9_touchAt_142 (lv_at hl 3 rfl) ?_
          refine lv_if_eq (tgt := 173) hx hb dX9_touchAt_144 (by decide) (fun c144 => ?_) (fun c144 => ?_)
          · replace h := if_t c144 h
            exact hL173 v4 v6 v8 mi ma _ _ ls (lv_sub hl [0, 1, 2, 4] rfl) hP hS h
          · replace h := if_f c144 h
            exact hL147 v4 v6 v7 v8 v9 mi ma _ _ ls (lv_sub hl [0, 1, 2, 3, 4, 5] rfl) hP hS h
  have hL43 : ∀ (n43 : Nat) (v2 : Int32) (v3 : Int32) (v4 : Int32) (v5 : Int32) (mi : Nat → Int32) (ma : Nat → Nat → Int32) (H : Heap) (locs : List Loc) (ls : Array Slot), lv_has ls 11 [(0, .ref (xB X 0)), (2, .int v2), (3, .int v3), (4, .int v4), (5, .int v5)] → va_P X.1 vwCl (cM X mi ml ma mb) H → va_S (mA X) s.heap H locs → X9_touchAt_43 n43 v2 v3 v4 v5 mi ma = some (o_mi, o_ma) → W p l e (headSpec (Cond.code yX9_touchAt cX9_touchAt 11 none :: gT) { frames := 3, cells := 0, slots := 0, locals := 69 }).room s m [.ref (xB X 0), .int a1].toArray below meth c H locs 0 0 (MQ below (wQ none (fun H => va_P X.1 vwCl (cM X o_mi ml o_ma mb) H) (mA X)) [.ref (xB X 0), .int a1].toArray s 0 0 (mA X)) (F0 m 43 ls []) := by
    intro n43
    induction n43 with
    | zero =>
      intro v2 v3 v4 v5 mi ma H locs ls hl hP hS h
      rw [X9_touchAt_43] at h
      cases h
    | succ n43 ih43 =>
      intro v2 v3 v4 v5 mi ma H locs ls hl hP hS h
      rw [X9_touchAt_43] at h
      refine lv_iload_n hx hb dX9_touchAt_43 rfl (lv_at hl 1 rfl) ?_
      refine lv_iload hx hb dX9_touchAt_44 (lv_at hl 4 rfl) ?_
      refine lv_iload_n hx hb dX9_touchAt_46 rfl (lv_at hl 2 rfl) ?_
      refine lv_imul hx hb dX9_touchAt_47 ?_
      refine lv_icmp_lt (tgt := 94) hx hb dX9_touchAt_48 (by decide) (fun c48 => ?_) (fun c48 => ?_)
      · replace h := if_t c48 h
        refine lv_iload hx hb dX9_touchAt_94 (lv_at hl 4 rfl) ?_
        refine lv_iconst (v := 1) hx hb dX9_touchAt_96 (by decide) ?_
        refine lv_icmp_ne (tgt := 104) hx hb dX9_touchAt_97 (by decide) (fun c97 => ?_) (fun c97 => ?_)
        · replace h := if_f c97 h
          refine lv_iload_n hx hb dX9_touchAt_104 rfl (lv_at hl 1 rfl) ?_
          refine lv_iload_n hx hb dX9_touchAt_105 rfl (lv_at hl 2 rfl) ?_
          obtain ⟨hne106, h⟩ := gn_e h
          refine lv_idiv hx hb dX9_touchAt_106 hne106 ?_
          refine lv_istore (lv' := [(6, .int (v2 / v3)), (0, .ref (xB X 0)), (2, .int v2), (3, .int v3), (4, .int v4), (5, .int v5)]) hx hb dX9_touchAt_107 hl (by decide) rfl (fun ls hl => ?_)
          refine lv_iload_n hx hb dX9_touchAt_109 rfl (lv_at hl 2 rfl) ?_
          refine lv_iload_n hx hb dX9_touchAt_110 rfl (lv_at hl 3 rfl) ?_
          obtain ⟨hne111, h⟩ := gn_e h
          refine lv_irem hx hb dX9_touchAt_111 hne111 ?_
          refine lv_istore (lv' := [(7, .int (v2 - v2 / v3 * v3)), (6, .int (v2 / v3)), (0, .ref (xB X 0)), (2, .int v2), (3, .int v3), (4, .int v4), (5, .int v5)]) hx hb dX9_touchAt_112 hl (by decide) rfl (fun ls hl => ?_)
          refine lv_iconst (v := 0) hx hb dX9_touchAt_114 (by decide) ?_
          refine lv_istore (lv' := [(8, .int (0 : Int32)), (7, .int (v2 - v2 / v3 * v3)), (6, .int (v2 / v3)), (0, .ref (xB X 0)), (2, .int v2), (3, .int v3), (4, .int v4), (5, .int v5)]) hx hb dX9_touchAt_115 hl (by decide) rfl (fun ls hl => ?_)
          refine lv_aload_n hx hb dX9_touchAt_117 rfl (lv_at hl 3 rfl) ?_
          obtain ⟨r118, hc118, h⟩ := Option.bind_eq_some_iff.mp h
          refine rcV (As := []) (rest := []) ⟨hx, hb, hml, hown, hts⟩ (c_X9_stuckSet l X mi ml ma mb hc118) ⟨w_1022, w_1024, w_26, w_58, w_1025⟩ hd_X9_stuckSet rfl rfl ⟨(Nat.le_of_ble_eq_true rfl), (Nat.le_of_ble_eq_true rfl)⟩ ⟨Nat.zero_le _, Nat.zero_le _⟩ mPre_blind (va_recv hK hP (ci := 5) rfl cM_o) (mPre_call hP hK hN) rfl rfl hl.1 (Nat.le_of_ble_eq_true rfl) dX9_touchAt_118 ?_
          refine lv_istore (lv' := [(9, .int r118), (8, .int (0 : Int32)), (7, .int (v2 - v2 / v3 * v3)), (6, .int (v2 / v3)), (0, .ref (xB X 0)), (2, .int v2), (3, .int v3), (4, .int v4), (5, .int v5)]) hx hb dX9_touchAt_121 hl (by decide) rfl (fun ls hl => ?_)
          exact hL123 500 v4 (v2 / v3) (v2 - v2 / v3 * v3) (0 : Int32) r118 mi ma _ _ ls (lv_sub hl [4, 7, 3, 2, 1, 0] rfl) hP hS h
        · replace h := if_t c97 h
          refine lv_iconst (v := 1) hx hb dX9_touchAt_100 (by decide) ?_
          refine lv_goto (tgt := 107) hx hb dX9_touchAt_101 (by decide) ?_
          refine lv_istore (lv' := [(6, .int (1 : Int32)), (0, .ref (xB X 0)), (2, .int v2), (3, .int v3), (4, .int v4), (5, .int v5)]) hx hb dX9_touchAt_107 hl (by decide) rfl (fun ls hl => ?_)
          refine lv_iload_n hx hb dX9_touchAt_109 rfl (lv_at hl 2 rfl) ?_
          refine lv_iload_n hx hb dX9_touchAt_110 rfl (lv_at hl 3 rfl) ?_
          obtain ⟨hne111, h⟩ := gn_e h
          refine lv_irem hx hb dX9_touchAt_111 hne111 ?_
          refine lv_istore (lv' := [(7, .int (v2 - v2 / v3 * v3)), (6, .int (1 : Int32)), (0, .ref (xB X 0)), (2, .int v2), (3, .int v3), (4, .int v4), (5, .int v5)]) hx hb dX9_touchAt_112 hl (by decide) rfl (fun ls hl => ?_)
          refine lv_iconst (v := 0) hx hb dX9_touchAt_114 (by decide) ?_
          refine lv_istore (lv' := [(8, .int (0 : Int32)), (7, .int (v2 - v2 / v3 * v3)), (6, .int (1 : Int32)), (0, .ref (xB X 0)), (2, .int v2), (3, .int v3), (4, .int v4), (5, .int v5)]) hx hb dX9_touchAt_115 hl (by decide) rfl (fun ls hl => ?_)
          refine lv_aload_n hx hb dX9_touchAt_117 rfl (lv_at hl 3 rfl) ?_
          obtain ⟨r118, hc118, h⟩ := Option.bind_eq_some_iff.mp h
          refine rcV (As := []) (rest := []) ⟨hx, hb, hml, hown, hts⟩ (c_X9_stuckSet l X mi ml ma mb hc118) ⟨w_1022, w_1024, w_26, w_58, w_1025⟩ hd_X9_stuckSet rfl rfl ⟨(Nat.le_of_ble_eq_true rfl), (Nat.le_of_ble_eq_true rfl)⟩ ⟨Nat.zero_le _, Nat.zero_le _⟩ mPre_blind (va_recv hK hP (ci := 5) rfl cM_o) (mPre_call hP hK hN) rfl rfl hl.1 (Nat.le_of_ble_eq_true rfl) dX9_touchAt_118 ?_
          refine lv_istore (lv' := [(9, .int r118), (8, .int (0 : Int32)), (7, .int (v2 - v2 / v3 * v3)), (6, .int (1 : Int32)), (0, .ref (xB X 0)), (2, .int v2), (3, .int v3), (4, .int v4), (5, .int v5)]) hx hb dX9_touchAt_121 hl (by decide) rfl (fun ls hl => ?_)
          exact hL123 500 v4 (1 : Int32) (v2 - v2 / v3 * v3) (0 : Int32) r118 mi ma _ _ ls (lv_sub hl [4, 7, 3, 2, 1, 0] rfl) hP hS h
      · replace h := if_f c48 h
        refine lv_iload_n hx hb dX9_touchAt_51 rfl (lv_at hl 1 rfl) ?_
        refine lv_iload hx hb dX9_touchAt_52 (lv_at hl 4 rfl) ?_
        refine lv_iload_n hx hb dX9_touchAt_54 rfl (lv_at hl 2 rfl) ?_
        refine lv_imul hx hb dX9_touchAt_55 ?_
        refine lv_isub hx hb dX9_touchAt_56 ?_
        refine lv_istore_n (lv' := [(2, .int (v2 - (v5 * v3))), (0, .ref (xB X 0)), (3, .int v3), (4, .int v4), (5, .int v5)]) hx hb dX9_touchAt_57 rfl hl (by decide) rfl (fun ls hl => ?_)
        refine lv_iinc (v := (v4 + (1 : Int32))) (lv' := [(4, .int (v4 + (1 : Int32))), (2, .int (v2 - (v5 * v3))), (0, .ref (xB X 0)), (3, .int v3), (5, .int v5)]) hx hb dX9_touchAt_58 hl (k := 3) rfl rfl (by decide) rfl (fun ls hl => ?_)
        refine lv_aload_n hx hb dX9_touchAt_61 rfl (lv_at hl 2 rfl) ?_
        refine lv_iload hx hb dX9_touchAt_62 (lv_at hl 0 rfl) ?_
        obtain ⟨r64, hc64, h⟩ := Option.bind_eq_some_iff.mp h
        refine rcV (As := [.int (v4 + (1 : Int32))]) (rest := []) ⟨hx, hb, hml, hown, hts⟩ (c_X9_isStuck l X mi ml ma mb (v4 + (1 : Int32)) hc64) ⟨w_1026, w_1028, w_27, w_58, w_1029⟩ hd_X9_isStuck rfl rfl ⟨(Nat.le_of_ble_eq_true rfl), (Nat.le_of_ble_eq_true rfl)⟩ ⟨Nat.zero_le _, Nat.zero_le _⟩ mPre_blind (va_recv hK hP (ci := 5) rfl cM_o) (mPre_call hP hK hN) rfl rfl hl.1 (Nat.le_of_ble_eq_true rfl) dX9_touchAt_64 ?_
        refine lv_if_eq (tgt := 74) hx hb dX9_touchAt_67 (by decide) (fun c67 => ?_) (fun c67 => ?_)
        · replace h := if_t c67 h
          refine lv_aload_n hx hb dX9_touchAt_74 rfl (lv_at hl 2 rfl) ?_
          refine lv_iload hx hb dX9_touchAt_75 (lv_at hl 0 rfl) ?_
          refine lv_iconst (v := 0) hx hb dX9_touchAt_77 (by decide) ?_
          obtain ⟨r78, hc78, h⟩ := Option.bind_eq_some_iff.mp h
          refine rcV (As := [.int (v4 + (1 : Int32)), .int (0 : Int32)]) (rest := []) ⟨hx, hb, hml, hown, hts⟩ (c_X9_sticks l X mi ml ma mb (v4 + (1 : Int32)) (0 : Int32) hc78) ⟨w_1055, w_1057, w_31, w_58, w_1058⟩ hd_X9_sticks rfl rfl ⟨(Nat.le_of_ble_eq_true rfl), (Nat.le_of_ble_eq_true rfl)⟩ ⟨Nat.zero_le _, Nat.zero_le _⟩ mPre_blind (va_recv hK hP (ci := 5) rfl cM_o) (mPre_call hP hK hN) rfl rfl hl.1 (Nat.le_of_ble_eq_true rfl) dX9_touchAt_78 ?_
          refine lv_if_eq (tgt := 88) hx hb dX9_touchAt_81 (by decide) (fun c81 => ?_) (fun c81 => ?_)
          · replace h := if_t c81 h
            refine lv_iconst (v := 1) hx hb dX9_touchAt_88 (by decide) ?_
            refine lv_istore (lv' := [(5, .int (1 : Int32)), (4, .int (v4 + (1 : Int32))), (2, .int (v2 - (v5 * v3))), (0, .ref (xB X 0)), (3, .int v3)]) hx hb dX9_touchAt_89 hl (by decide) rfl (fun ls hl => ?_)
            refine lv_goto (tgt := 43) hx hb dX9_touchAt_91 (by decide) ?_
            exact ih43 (v2 - (v5 * v3)) v3 (v4 + (1 : Int32)) (1 : Int32) mi ma _ _ ls (lv_sub hl [3, 2, 4, 1, 0] rfl) hP hS h
          · replace h := if_f c81 h
            refine lv_iconst (v := 2) hx hb dX9_touchAt_84 (by decide) ?_
            refine lv_goto (tgt := 89) hx hb dX9_touchAt_85 (by decide) ?_
            refine lv_istore (lv' := [(5, .int (2 : Int32)), (4, .int (v4 + (1 : Int32))), (2, .int (v2 - (v5 * v3))), (0, .ref (xB X 0)), (3, .int v3)]) hx hb dX9_touchAt_89 hl (by decide) rfl (fun ls hl => ?_)
            refine lv_goto (tgt := 43) hx hb dX9_touchAt_91 (by decide) ?_
            exact ih43 (v2 - (v5 * v3)) v3 (v4 + (1 : Int32)) (2 : Int32) mi ma _ _ ls (lv_sub hl [3, 2, 4, 1, 0] rfl) hP hS h
        · replace h := if_f c67 h
          refine lv_iconst (v := 0) hx hb dX9_touchAt_70 (by decide) ?_
          refine lv_goto (tgt := 89) hx hb dX9_touchAt_71 (by decide) ?_
          refine lv_istore (lv' := [(5, .int (0 : Int32)), (4, .int (v4 + (1 : Int32))), (2, .int (v2 - (v5 * v3))), (0, .ref (xB X 0)), (3, .int v3)]) hx hb dX9_touchAt_89 hl (by decide) rfl (fun ls hl => ?_)
          refine lv_goto (tgt := 43) hx hb dX9_touchAt_91 (by decide) ?_
          exact ih43 (v2 - (v5 * v3)) v3 (v4 + (1 : Int32)) (0 : Int32) mi ma _ _ ls (lv_sub hl [3, 2, 4, 1, 0] rfl) hP hS h
  rw [X9_touchAt] at h
  refine lv_iload_n hx hb dX9_touchAt_0 rfl (lv_at hl 1 rfl) ?_
  refine lv_istore_n (lv' := [(2, .int a1), (0, .ref (xB X 0)), (1, .int a1)]) hx hb dX9_touchAt_1 rfl hl (by decide) rfl (fun ls hl => ?_)
  refine lv_aload_n hx hb dX9_touchAt_2 rfl (lv_at hl 1 rfl) ?_
  obtain ⟨r3, hc3, h⟩ := Option.bind_eq_some_iff.mp h
  refine rcV (As := []) (rest := []) ⟨hx, hb, hml, hown, hts⟩ (c_X9_stuckSet l X mi ml ma mb hc3) ⟨w_1022, w_1024, w_26, w_58, w_1025⟩ hd_X9_stuckSet rfl rfl ⟨(Nat.le_of_ble_eq_true rfl), (Nat.le_of_ble_eq_true rfl)⟩ ⟨Nat.zero_le _, Nat.zero_le _⟩ mPre_blind (va_recv hK hP (ci := 5) rfl cM_o) (mPre_call hP hK hN) rfl rfl hl.1 (Nat.le_of_ble_eq_true rfl) dX9_touchAt_3 ?_
  obtain ⟨r6, hc6, h⟩ := Option.bind_eq_some_iff.mp h
  refine rcS (As := [.int r3]) (rest := []) ⟨hx, hb, hml, hown, hts⟩ (c_X9_bits l r3 hc6) ⟨w_1030, w_1031, w_58, w_1032⟩ hd_X9_bits rfl rfl ⟨(Nat.le_of_ble_eq_true rfl), (Nat.le_of_ble_eq_true rfl)⟩ ⟨Nat.zero_le _, Nat.zero_le _⟩ (fun _ _ _ _ h => h) (fun _ _ _ => trivial) rfl rfl hl.1 (Nat.le_of_ble_eq_true rfl) dX9_touchAt_6 ?_
  refine lv_iconst (v := 1) hx hb dX9_touchAt_9 (by decide) ?_
  refine lv_iadd hx hb dX9_touchAt_10 ?_
  refine lv_istore_n (lv' := [(3, .int (r6 + (1 : Int32))), (2, .int a1), (0, .ref (xB X 0)), (1, .int a1)]) hx hb dX9_touchAt_11 rfl hl (by decide) rfl (fun ls hl => ?_)
  refine lv_iconst (v := 0) hx hb dX9_touchAt_12 (by decide) ?_
  refine lv_istore (lv' := [(4, .int (0 : Int32)), (3, .int (r6 + (1 : Int32))), (2, .int a1), (0, .ref (xB X 0)), (1, .int a1)]) hx hb dX9_touchAt_13 hl (by decide) rfl (fun ls hl => ?_)
  refine lv_aload_n hx hb dX9_touchAt_15 rfl (lv_at hl 3 rfl) ?_
  refine lv_iconst (v := 0) hx hb dX9_touchAt_16 (by decide) ?_
  obtain ⟨r17, hc17, h⟩ := Option.bind_eq_some_iff.mp h
  refine rcV (As := [.int (0 : Int32)]) (rest := []) ⟨hx, hb, hml, hown, hts⟩ (c_X9_isStuck l X mi ml ma mb (0 : Int32) hc17) ⟨w_1026, w_1028, w_27, w_58, w_1029⟩ hd_X9_isStuck rfl rfl ⟨(Nat.le_of_ble_eq_true rfl), (Nat.le_of_ble_eq_true rfl)⟩ ⟨Nat.zero_le _, Nat.zero_le _⟩ mPre_blind (va_recv hK hP (ci := 5) rfl cM_o) (mPre_call hP hK hN) rfl rfl hl.1 (Nat.le_of_ble_eq_true rfl) dX9_touchAt_17 ?_
  refine lv_if_eq (tgt := 27) hx hb dX9_touchAt_20 (by decide) (fun c20 => ?_) (fun c20 => ?_)
  · replace h := if_t c20 h
    refine lv_aload_n hx hb dX9_touchAt_27 rfl (lv_at hl 3 rfl) ?_
    refine lv_iconst (v := 0) hx hb dX9_touchAt_28 (by decide) ?_
    refine lv_iconst (v := 0) hx hb dX9_touchAt_29 (by decide) ?_
    obtain ⟨r30, hc30, h⟩ := Option.bind_eq_some_iff.mp h
    refine rcV (As := [.int (0 : Int32), .int (0 : Int32)]) (rest := []) ⟨hx, hb, hml, hown, hts⟩ (c_X9_sticks l X mi ml ma mb (0 : Int32) (0 : Int32) hc30) ⟨w_1055, w_1057, w_31, w_58, w_1058⟩ hd_X9_sticks rfl rfl ⟨(Nat.le_of_ble_eq_true rfl), (Nat.le_of_ble_eq_true rfl)⟩ ⟨Nat.zero_le _, Nat.zero_le _⟩ mPre_blind (va_recv hK hP (ci := 5) rfl cM_o) (mPre_call hP hK hN) rfl rfl hl.1 (Nat.le_of_ble_eq_true rfl) dX9_touchAt_30 ?_
    refine lv_if_eq (tgt := 40) hx hb dX9_touchAt_33 (by decide) (fun c33 => ?_) (fun c33 => ?_)
    · replace h := if_t c33 h
      refine lv_iconst (v := 1) hx hb dX9_touchAt_40 (by decide) ?_
      refine lv_istore (lv' := [(5, .int (1 : Int32)), (4, .int (0 : Int32)), (3, .int (r6 + (1 : Int32))), (2, .int a1), (0, .ref (xB X 0)), (1, .int a1)]) hx hb dX9_touchAt_41 hl (by decide) rfl (fun ls hl => ?_)
      exact hL43 500 a1 (r6 + (1 : Int32)) (0 : Int32) (1 : Int32) mi ma _ _ ls (lv_sub hl [4, 3, 2, 1, 0] rfl) hP hS h
    · replace h := if_f c33 h
      refine lv_iconst (v := 2) hx hb dX9_touchAt_36 (by decide) ?_
      refine lv_goto (tgt := 41) hx hb dX9_touchAt_37 (by decide) ?_
      refine lv_istore (lv' := [(5, .int (2 : Int32)), (4, .int (0 : Int32)), (3, .int (r6 + (1 : Int32))), (2, .int a1), (0, .ref (xB X 0)), (1, .int a1)]) hx hb dX9_touchAt_41 hl (by decide) rfl (fun ls hl => ?_)
      exact hL43 500 a1 (r6 + (1 : Int32)) (0 : Int32) (2 : Int32) mi ma _ _ ls (lv_sub hl [4, 3, 2, 1, 0] rfl) hP hS h
  · replace h := if_f c20 h
    refine lv_iconst (v := 0) hx hb dX9_touchAt_23 (by decide) ?_
    refine lv_goto (tgt := 41) hx hb dX9_touchAt_24 (by decide) ?_
    refine lv_istore (lv' := [(5, .int (0 : Int32)), (4, .int (0 : Int32)), (3, .int (r6 + (1 : Int32))), (2, .int a1), (0, .ref (xB X 0)), (1, .int a1)]) hx hb dX9_touchAt_41 hl (by decide) rfl (fun ls hl => ?_)
    exact hL43 500 a1 (r6 + (1 : Int32)) (0 : Int32) (0 : Int32) mi ma _ _ ls (lv_sub hl [4, 3, 2, 1, 0] rfl) hP hS h
set_option maxRecDepth 100000 in
set_option maxHeartbeats 4000000 in
theorem c_X9_lots (l : Launch) (X : gX) (mi : Nat → Int32) (ml : Nat → Int64) (ma : Nat → Nat → Int32) (mb : Nat → Nat → Int64) (a1 : Int32) (a2 : Int32) {o0 : Int32} {o_mi : Nat → Int32} {o_ma : Nat → Nat → Int32} (h : X9_lots a1 a2 mi ma = some (o0, o_mi, o_ma)) : Met l yX9_lots (Cond.code yX9_lots cX9_lots 6 (some .int) :: gT) { frames := 4, cells := 0, slots := 0, locals := 99 } (va_Pc [.ref (xB X 0), .int a1, .int a2] (mPre X mi ml ma mb)) (wQ (some (.int o0)) (fun H => va_P X.1 vwCl (cM X o_mi ml o_ma mb) H) (mA X)) 0 0 (mA X) := by
  refine Met.ofW (cc := cX9_lots) (maxL := 6) (ret := (some .int)) (by decide) rfl ?_
  intro p e s m args below meth c s₁ B hml hv
  obtain ⟨rfl, hP, hK, hN⟩ := hv
  have hx := B.exec
  have hb := B.bytes
  have hr := B.returns
  have hts := atoms_spec (ws := (Cond.code yX9_lots cX9_lots 6 (some .int) :: gT)) B.pre
  have hT : ∀ w ∈ gT, w.before _ s = true := fun w hw => hts w (List.mem_cons_of_mem _ hw)
  have hown : s.vm.findClass RX9 = some m.cls := findClass_of_methodNamed B.named
  have hlocks := B.notSynchronized
  have hS : va_S (mA X) s.heap s.heap [] := va_S.rf
  have hl := lv_entry ([.ref (xB X 0), .int a1, .int a2]) (n := 6) (Nat.le_of_ble_eq_true rfl)
  rw [lg_entry_eq]
  generalize (lg_sl ([.ref (xB X 0), .int a1, .int a2]) ++ List.replicate (6 - (lg_sl ([.ref (xB X 0), .int a1, .int a2])).length) Slot.unset).toArray = ls at hl ⊢
  have hl : lv_has ls 6 [(0, .ref (xB X 0)), (1, .int a1), (2, .int a2)] := hl
  have hL56 : ∀ (n56 : Nat) (v1 : Int32) (v3 : Int64) (v5 : Int32) (mi : Nat → Int32) (ma : Nat → Nat → Int32) (H : Heap) (locs : List Loc) (ls : Array Slot), lv_has ls 6 [(0, .ref (xB X 0)), (1, .int v1), (3, .long v3), (5, .int v5)] → va_P X.1 vwCl (cM X mi ml ma mb) H → va_S (mA X) s.heap H locs → X9_lots_56 n56 v1 v3 v5 mi ma = some (o0, o_mi, o_ma) → W p l e (headSpec (Cond.code yX9_lots cX9_lots 6 (some .int) :: gT) { frames := 4, cells := 0, slots := 0, locals := 99 }).room s m [.ref (xB X 0), .int a1, .int a2].toArray below meth c H locs 0 0 (MQ below (wQ (some (.int o0)) (fun H => va_P X.1 vwCl (cM X o_mi ml o_ma mb) H) (mA X)) [.ref (xB X 0), .int a1, .int a2].toArray s 0 0 (mA X)) (F0 m 56 ls []) := by
    intro n56
    induction n56 with
    | zero =>
      intro v1 v3 v5 mi ma H locs ls hl hP hS h
      rw [X9_lots_56] at h
      cases h
    | succ n56 ih56 =>
      intro v1 v3 v5 mi ma H locs ls hl hP hS h
      rw [X9_lots_56] at h
      refine lv_iload hx hb dX9_lots_56 (lv_at hl 3 rfl) ?_
      refine lv_iload_n hx hb dX9_lots_58 rfl (lv_at hl 1 rfl) ?_
      refine lv_icmp_ge (tgt := 97) hx hb dX9_lots_59 (by decide) (fun c59 => ?_) (fun c59 => ?_)
      · replace h := if_t c59 h
        refine lv_iload hx hb dX9_lots_97 (lv_at hl 3 rfl) ?_
        cases h
        exact W.iret hx hb hr (fun t ht _ => ⟨rfl, by rw [ht]; exact hP, hS.F ht⟩) hS.2.2 dX9_lots_99
      · replace h := if_f c59 h
        refine lv_aload_n hx hb dX9_lots_62 rfl (lv_at hl 0 rfl) ?_
        obtain ⟨r63, hc63, h⟩ := Option.bind_eq_some_iff.mp h
        refine rcV (As := []) (rest := []) ⟨hx, hb, hml, hown, hts⟩ (c_X9_waysNow l X mi ml ma mb hc63) ⟨w_1176, w_1178, w_41, w_58, w_1179⟩ hd_X9_waysNow rfl rfl ⟨(Nat.le_of_ble_eq_true rfl), (Nat.le_of_ble_eq_true rfl)⟩ ⟨Nat.zero_le _, Nat.zero_le _⟩ mPre_blind (va_recv hK hP (ci := 5) rfl cM_o) (mPre_call hP hK hN) rfl rfl hl.1 (Nat.le_of_ble_eq_true rfl) dX9_lots_63 ?_
        refine lv_if_le (tgt := 97) hx hb dX9_lots_66 (by decide) (fun c66 => ?_) (fun c66 => ?_)
        · replace h := if_t c66 h
          refine lv_iload hx hb dX9_lots_97 (lv_at hl 3 rfl) ?_
          cases h
          exact W.iret hx hb hr (fun t ht _ => ⟨rfl, by rw [ht]; exact hP, hS.F ht⟩) hS.2.2 dX9_lots_99
        · replace h := if_f c66 h
          refine lv_lload_n hx hb dX9_lots_69 rfl (lv_at hl 2 rfl) ?_
          refine lv_ldc2 (v := 48271) hx hb hown (hT _ w_1251) dX9_lots_70 ?_
          refine lv_lmul hx hb dX9_lots_73 ?_
          refine lv_ldc2 (v := 2147483647) hx hb hown (hT _ w_1252) dX9_lots_74 ?_
          obtain ⟨hne77, h⟩ := gn_e h
          refine lv_lrem hx hb dX9_lots_77 hne77 ?_
          refine lv_topl (fun v3_78 ev3_78 => ?_)
          replace h := lt_e h ev3_78
          refine lv_lstore_n (lv' := [(3, .long v3_78), (0, .ref (xB X 0)), (1, .int v1), (5, .int v5)]) hx hb dX9_lots_78 rfl hl (by decide) rfl (fun ls hl => ?_)
          refine lv_aload_n hx hb dX9_lots_79 rfl (lv_at hl 1 rfl) ?_
          refine lv_lload_n hx hb dX9_lots_80 rfl (lv_at hl 0 rfl) ?_
          refine lv_aload_n hx hb dX9_lots_81 rfl (lv_at hl 1 rfl) ?_
          obtain ⟨r82, hc82, h⟩ := Option.bind_eq_some_iff.mp h
          refine rcV (As := []) (rest := [.long v3_78, .ref (xB X 0)]) ⟨hx, hb, hml, hown, hts⟩ (c_X9_waysNow l X mi ml ma mb hc82) ⟨w_1176, w_1178, w_41, w_58, w_1179⟩ hd_X9_waysNow rfl rfl ⟨(Nat.le_of_ble_eq_true rfl), (Nat.le_of_ble_eq_true rfl)⟩ ⟨Nat.zero_le _, Nat.zero_le _⟩ mPre_blind (va_recv hK hP (ci := 5) rfl cM_o) (mPre_call hP hK hN) rfl rfl hl.1 (Nat.le_of_ble_eq_true rfl) dX9_lots_82 ?_
          refine lv_i2l hx hb dX9_lots_85 rfl ?_
          obtain ⟨hne86, h⟩ := gn_e h
          refine lv_lrem hx hb dX9_lots_86 hne86 ?_
          refine lv_l2i hx hb dX9_lots_87 rfl ?_
          obtain ⟨mi_88, ma_88, hc88, h⟩ := bd2_e h
          refine wcV (As := [.int ((v3_78 - v3_78 / r82.toInt64 * r82.toInt64).toInt32)]) (rest := []) ⟨hx, hb, hml, hown, hts⟩ (c_X9_touchAt l X mi ml ma mb ((v3_78 - v3_78 / r82.toInt64 * r82.toInt64).toInt32) hc88) ⟨w_1253, w_1255, w_49, w_58, w_1256⟩ hd_X9_touchAt rfl rfl ⟨(Nat.le_of_ble_eq_true rfl), (Nat.le_of_ble_eq_true rfl)⟩ ⟨Nat.zero_le _, Nat.zero_le _⟩ mPre_blind (va_recv hK hP (ci := 5) rfl cM_o) (mPre_call hP hK hN) hS (fun _ h => h) rfl rfl hl.1 (Nat.le_of_ble_eq_true rfl) dX9_lots_88 (fun H locs hP _ hS => ?_)
          have hP : va_P X.1 vwCl (cM X mi_88 ml ma_88 mb) H := hP
          refine W.eq (g2 := F0 m 91 ls []) rfl ?_
          refine lv_iinc (v := (v5 + (1 : Int32))) (lv' := [(5, .int (v5 + (1 : Int32))), (3, .long v3_78), (0, .ref (xB X 0)), (1, .int v1)]) hx hb dX9_lots_91 hl (k := 3) rfl rfl (by decide) rfl (fun ls hl => ?_)
          refine lv_goto (tgt := 56) hx hb dX9_lots_94 (by decide) ?_
          exact ih56 v1 v3_78 (v5 + (1 : Int32)) mi_88 ma_88 _ _ ls (lv_sub hl [2, 3, 1, 0] rfl) hP hS h
  rw [X9_lots] at h
  refine lv_iload_n hx hb dX9_lots_0 rfl (lv_at hl 1 rfl) ?_
  refine lv_i2l hx hb dX9_lots_1 rfl ?_
  refine lv_lconst (v := 1) hx hb dX9_lots_2 (by decide) ?_
  refine lv_ldc2 (v := 40) hx hb hown (hT _ w_1249) dX9_lots_3 ?_
  obtain ⟨r6, hc6, h⟩ := Option.bind_eq_some_iff.mp h
  refine rcS (As := [.long a1.toInt64, .long (1 : Int64), .long (40 : Int64)]) (rest := []) ⟨hx, hb, hml, hown, hts⟩ (c_X9_in l a1.toInt64 (1 : Int64) (40 : Int64) hc6) ⟨w_912, w_913, w_58, w_914⟩ hd_X9_in rfl rfl ⟨(Nat.le_of_ble_eq_true rfl), (Nat.le_of_ble_eq_true rfl)⟩ ⟨Nat.zero_le _, Nat.zero_le _⟩ (fun _ _ _ _ h => h) (fun _ _ _ => trivial) rfl rfl hl.1 (Nat.le_of_ble_eq_true rfl) dX9_lots_6 ?_
  refine lv_if_eq (tgt := 24) hx hb dX9_lots_9 (by decide) (fun c9 => ?_) (fun c9 => ?_)
  · replace h := if_t c9 h
    refine lv_iconst (v := -1) hx hb dX9_lots_24 (by decide) ?_
    cases h
    exact W.iret hx hb hr (fun t ht _ => ⟨rfl, by rw [ht]; exact hP, hS.F ht⟩) hS.2.2 dX9_lots_25
  · replace h := if_f c9 h
    refine lv_iload_n hx hb dX9_lots_12 rfl (lv_at hl 2 rfl) ?_
    refine lv_i2l hx hb dX9_lots_13 rfl ?_
    refine lv_lconst (v := 1) hx hb dX9_lots_14 (by decide) ?_
    refine lv_ldc2 (v := 2147483646) hx hb hown (hT _ w_1250) dX9_lots_15 ?_
    obtain ⟨r18, hc18, h⟩ := Option.bind_eq_some_iff.mp h
    refine rcS (As := [.long a2.toInt64, .long (1 : Int64), .long (2147483646 : Int64)]) (rest := []) ⟨hx, hb, hml, hown, hts⟩ (c_X9_in l a2.toInt64 (1 : Int64) (2147483646 : Int64) hc18) ⟨w_912, w_913, w_58, w_914⟩ hd_X9_in rfl rfl ⟨(Nat.le_of_ble_eq_true rfl), (Nat.le_of_ble_eq_true rfl)⟩ ⟨Nat.zero_le _, Nat.zero_le _⟩ (fun _ _ _ _ h => h) (fun _ _ _ => trivial) rfl rfl hl.1 (Nat.le_of_ble_eq_true rfl) dX9_lots_18 ?_
    refine lv_if_ne (tgt := 26) hx hb dX9_lots_21 (by decide) (fun c21 => ?_) (fun c21 => ?_)
    · replace h := if_f c21 h
      refine lv_aload_n hx hb dX9_lots_26 rfl (lv_at hl 0 rfl) ?_
      refine rg_M_people hx hb hT hown hK hP w_779 dX9_lots_27 ?_
      refine lv_if_ne (tgt := 36) hx hb dX9_lots_30 (by decide) (fun c30 => ?_) (fun c30 => ?_)
      · replace h := if_f c30 h
        refine lv_aload_n hx hb dX9_lots_36 rfl (lv_at hl 0 rfl) ?_
        refine rg_M_deeds hx hb hT hown hK hP w_786 dX9_lots_37 ?_
        refine lv_iload_n hx hb dX9_lots_40 rfl (lv_at hl 1 rfl) ?_
        refine lv_iadd hx hb dX9_lots_41 ?_
        refine lv_bipush (v := 60) hx hb dX9_lots_42 (by decide) ?_
        refine lv_icmp_le (tgt := 50) hx hb dX9_lots_44 (by decide) (fun c44 => ?_) (fun c44 => ?_)
        · replace h := if_t c44 h
          refine lv_iload_n hx hb dX9_lots_50 rfl (lv_at hl 2 rfl) ?_
          refine lv_i2l hx hb dX9_lots_51 rfl ?_
          refine lv_lstore_n (lv' := [(3, .long a2.toInt64), (0, .ref (xB X 0)), (1, .int a1), (2, .int a2)]) hx hb dX9_lots_52 rfl hl (by decide) rfl (fun ls hl => ?_)
          refine lv_iconst (v := 0) hx hb dX9_lots_53 (by decide) ?_
          refine lv_istore (lv' := [(5, .int (0 : Int32)), (3, .long a2.toInt64), (0, .ref (xB X 0)), (1, .int a1), (2, .int a2)]) hx hb dX9_lots_54 hl (by decide) rfl (fun ls hl => ?_)
          exact hL56 500 a1 a2.toInt64 (0 : Int32) mi ma _ _ ls (lv_sub hl [2, 3, 1, 0] rfl) hP hS h
        · replace h := if_f c44 h
          refine lv_bipush (v := -2) hx hb dX9_lots_47 (by decide) ?_
          cases h
          exact W.iret hx hb hr (fun t ht _ => ⟨rfl, by rw [ht]; exact hP, hS.F ht⟩) hS.2.2 dX9_lots_49
      · replace h := if_t c30 h
        refine lv_bipush (v := -4) hx hb dX9_lots_33 (by decide) ?_
        cases h
        exact W.iret hx hb hr (fun t ht _ => ⟨rfl, by rw [ht]; exact hP, hS.F ht⟩) hS.2.2 dX9_lots_35
    · replace h := if_t c21 h
      refine lv_iconst (v := -1) hx hb dX9_lots_24 (by decide) ?_
      cases h
      exact W.iret hx hb hr (fun t ht _ => ⟨rfl, by rw [ht]; exact hP, hS.F ht⟩) hS.2.2 dX9_lots_25
set_option maxRecDepth 100000 in
set_option maxHeartbeats 4000000 in
theorem c_X9_asked (l : Launch) (X : gX) (mi : Nat → Int32) (ml : Nat → Int64) (ma : Nat → Nat → Int32) (mb : Nat → Nat → Int64) {o0 : Int32} (h : X9_asked mi = some o0) : Met l yX9_asked (Cond.code yX9_asked cX9_asked 1 (some .int) :: gT) { frames := 0, cells := 0, slots := 0, locals := 0 } (va_Pc [.ref (xB X 0)] (mPre X mi ml ma mb)) (k2_QcV (.int o0)) 0 0 (fun _ => False) := by
  refine Met.ofW (cc := cX9_asked) (maxL := 1) (ret := (some .int)) (by decide) rfl ?_
  intro p e s m args below meth c s₁ B hml hv
  obtain ⟨rfl, hP, hK, hN⟩ := hv
  have hx := B.exec
  have hb := B.bytes
  have hr := B.returns
  have hts := atoms_spec (ws := (Cond.code yX9_asked cX9_asked 1 (some .int) :: gT)) B.pre
  have hT : ∀ w ∈ gT, w.before _ s = true := fun w hw => hts w (List.mem_cons_of_mem _ hw)
  have hown : s.vm.findClass RX9 = some m.cls := findClass_of_methodNamed B.named
  have hlocks := B.notSynchronized
  have hS : va_S (mA X) s.heap s.heap [] := va_S.rf
  have hl := lv_entry ([.ref (xB X 0)]) (n := 1) (Nat.le_of_ble_eq_true rfl)
  rw [lg_entry_eq]
  generalize (lg_sl ([.ref (xB X 0)]) ++ List.replicate (1 - (lg_sl ([.ref (xB X 0)])).length) Slot.unset).toArray = ls at hl ⊢
  have hl : lv_has ls 1 [(0, .ref (xB X 0))] := hl
  rw [X9_asked] at h
  refine lv_aload_n hx hb dX9_asked_0 rfl (lv_at hl 0 rfl) ?_
  refine rg_M_asked hx hb hT hown hK hP w_791 dX9_asked_1 ?_
  cases h
  exact W.iret hx hb hr (fun t ht _ => ⟨rfl, ht⟩) (fun _ hq => by cases hq) dX9_asked_4
set_option maxRecDepth 100000 in
set_option maxHeartbeats 4000000 in
theorem c_X9_upper (l : Launch) (X : gX) (mi : Nat → Int32) (ml : Nat → Int64) (ma : Nat → Nat → Int32) (mb : Nat → Nat → Int64) {o0 : Int64} (h : X9_upper ml = some o0) : Met l yX9_upper (Cond.code yX9_upper cX9_upper 1 (some .long) :: gT) { frames := 0, cells := 0, slots := 0, locals := 0 } (va_Pc [.ref (xB X 0)] (mPre X mi ml ma mb)) (k2_QcV (.long o0)) 0 0 (fun _ => False) := by
  refine Met.ofW (cc := cX9_upper) (maxL := 1) (ret := (some .long)) (by decide) rfl ?_
  intro p e s m args below meth c s₁ B hml hv
  obtain ⟨rfl, hP, hK, hN⟩ := hv
  have hx := B.exec
  have hb := B.bytes
  have hr := B.returns
  have hts := atoms_spec (ws := (Cond.code yX9_upper cX9_upper 1 (some .long) :: gT)) B.pre
  have hT : ∀ w ∈ gT, w.before _ s = true := fun w hw => hts w (List.mem_cons_of_mem _ hw)
  have hown : s.vm.findClass RX9 = some m.cls := findClass_of_methodNamed B.named
  have hlocks := B.notSynchronized
  have hS : va_S (mA X) s.heap s.heap [] := va_S.rf
  have hl := lv_entry ([.ref (xB X 0)]) (n := 1) (Nat.le_of_ble_eq_true rfl)
  rw [lg_entry_eq]
  generalize (lg_sl ([.ref (xB X 0)]) ++ List.replicate (1 - (lg_sl ([.ref (xB X 0)])).length) Slot.unset).toArray = ls at hl ⊢
  have hl : lv_has ls 1 [(0, .ref (xB X 0))] := hl
  rw [X9_upper] at h
  refine lv_aload_n hx hb dX9_upper_0 rfl (lv_at hl 0 rfl) ?_
  refine rg_M_upper hx hb hT hown hK hP w_792 dX9_upper_1 ?_
  cases h
  exact W.lret hx hb hr (fun t ht _ => ⟨rfl, ht⟩) (fun _ hq => by cases hq) dX9_upper_4
set_option maxRecDepth 100000 in
set_option maxHeartbeats 4000000 in
theorem c_X9_lower (l : Launch) (X : gX) (mi : Nat → Int32) (ml : Nat → Int64) (ma : Nat → Nat → Int32) (mb : Nat → Nat → Int64) {o0 : Int64} (h : X9_lower ml = some o0) : Met l yX9_lower (Cond.code yX9_lower cX9_lower 1 (some .long) :: gT) { frames := 0, cells := 0, slots := 0, locals := 0 } (va_Pc [.ref (xB X 0)] (mPre X mi ml ma mb)) (k2_QcV (.long o0)) 0 0 (fun _ => False) := by
  refine Met.ofW (cc := cX9_lower) (maxL := 1) (ret := (some .long)) (by decide) rfl ?_
  intro p e s m args below meth c s₁ B hml hv
  obtain ⟨rfl, hP, hK, hN⟩ := hv
  have hx := B.exec
  have hb := B.bytes
  have hr := B.returns
  have hts := atoms_spec (ws := (Cond.code yX9_lower cX9_lower 1 (some .long) :: gT)) B.pre
  have hT : ∀ w ∈ gT, w.before _ s = true := fun w hw => hts w (List.mem_cons_of_mem _ hw)
  have hown : s.vm.findClass RX9 = some m.cls := findClass_of_methodNamed B.named
  have hlocks := B.notSynchronized
  have hS : va_S (mA X) s.heap s.heap [] := va_S.rf
  have hl := lv_entry ([.ref (xB X 0)]) (n := 1) (Nat.le_of_ble_eq_true rfl)
  rw [lg_entry_eq]
  generalize (lg_sl ([.ref (xB X 0)]) ++ List.replicate (1 - (lg_sl ([.ref (xB X 0)])).length) Slot.unset).toArray = ls at hl ⊢
  have hl : lv_has ls 1 [(0, .ref (xB X 0))] := hl
  rw [X9_lower] at h
  refine lv_aload_n hx hb dX9_lower_0 rfl (lv_at hl 0 rfl) ?_
  refine rg_M_lower hx hb hT hown hK hP w_793 dX9_lower_1 ?_
  cases h
  exact W.lret hx hb hr (fun t ht _ => ⟨rfl, ht⟩) (fun _ hq => by cases hq) dX9_lower_4
set_option maxRecDepth 100000 in
set_option maxHeartbeats 4000000 in
theorem c_X9_gloved (l : Launch) (X : gX) (mi : Nat → Int32) (ml : Nat → Int64) (ma : Nat → Nat → Int32) (mb : Nat → Nat → Int64) {o0 : Int32} (h : X9_gloved mi ma = some o0) : Met l yX9_gloved (Cond.code yX9_gloved cX9_gloved 3 (some .int) :: gT) { frames := 1, cells := 0, slots := 0, locals := 22 } (va_Pc [.ref (xB X 0)] (mPre X mi ml ma mb)) (k2_QcV (.int o0)) 0 0 (fun _ => False) := by
  refine Met.ofW (cc := cX9_gloved) (maxL := 3) (ret := (some .int)) (by decide) rfl ?_
  intro p e s m args below meth c s₁ B hml hv
  obtain ⟨rfl, hP, hK, hN⟩ := hv
  have hx := B.exec
  have hb := B.bytes
  have hr := B.returns
  have hts := atoms_spec (ws := (Cond.code yX9_gloved cX9_gloved 3 (some .int) :: gT)) B.pre
  have hT : ∀ w ∈ gT, w.before _ s = true := fun w hw => hts w (List.mem_cons_of_mem _ hw)
  have hown : s.vm.findClass RX9 = some m.cls := findClass_of_methodNamed B.named
  have hlocks := B.notSynchronized
  have hS : va_S (mA X) s.heap s.heap [] := va_S.rf
  have hl := lv_entry ([.ref (xB X 0)]) (n := 3) (Nat.le_of_ble_eq_true rfl)
  rw [lg_entry_eq]
  generalize (lg_sl ([.ref (xB X 0)]) ++ List.replicate (3 - (lg_sl ([.ref (xB X 0)])).length) Slot.unset).toArray = ls at hl ⊢
  have hl : lv_has ls 3 [(0, .ref (xB X 0))] := hl
  have hL4 : ∀ (n4 : Nat) (v1 : Int32) (v2 : Int32) (ls : Array Slot), lv_has ls 3 [(0, .ref (xB X 0)), (1, .int v1), (2, .int v2)] → X9_gloved_4 mi ma n4 v1 v2 = some o0 → W p l e (headSpec (Cond.code yX9_gloved cX9_gloved 3 (some .int) :: gT) { frames := 1, cells := 0, slots := 0, locals := 22 }).room s m [.ref (xB X 0)].toArray below meth c s.heap [] 0 0 (MQ below (k2_QcV (.int o0)) [.ref (xB X 0)].toArray s 0 0 (fun _ => False)) (F0 m 4 ls []) := by
    intro n4
    induction n4 with
    | zero =>
      intro v1 v2 ls hl h
      rw [X9_gloved_4] at h
      cases h
    | succ n4 ih4 =>
      intro v1 v2 ls hl h
      rw [X9_gloved_4] at h
      refine lv_iload_n hx hb dX9_gloved_4 rfl (lv_at hl 2 rfl) ?_
      refine lv_aload_n hx hb dX9_gloved_5 rfl (lv_at hl 0 rfl) ?_
      refine rg_M_people hx hb hT hown hK hP w_779 dX9_gloved_6 ?_
      refine lv_icmp_ge (tgt := 35) hx hb dX9_gloved_9 (by decide) (fun c9 => ?_) (fun c9 => ?_)
      · replace h := if_t c9 h
        refine lv_iload_n hx hb dX9_gloved_35 rfl (lv_at hl 1 rfl) ?_
        cases h
        exact W.iret hx hb hr (fun t ht _ => ⟨rfl, ht⟩) (fun _ hq => by cases hq) dX9_gloved_36
      · replace h := if_f c9 h
        refine lv_iload_n hx hb dX9_gloved_12 rfl (lv_at hl 1 rfl) ?_
        refine lv_aload_n hx hb dX9_gloved_13 rfl (lv_at hl 0 rfl) ?_
        refine lv_iload_n hx hb dX9_gloved_14 rfl (lv_at hl 2 rfl) ?_
        refine lv_iconst (v := 1) hx hb dX9_gloved_15 (by decide) ?_
        obtain ⟨r16, hc16, h⟩ := Option.bind_eq_some_iff.mp h
        refine rcV (As := [.int v2, .int (1 : Int32)]) (rest := [.int v1]) ⟨hx, hb, hml, hown, hts⟩ (c_X9_isOf l X mi ml ma mb v2 (1 : Int32) hc16) ⟨w_1006, w_1008, w_22, w_58, w_1009⟩ hd_X9_isOf rfl rfl ⟨(Nat.le_of_ble_eq_true rfl), (Nat.le_of_ble_eq_true rfl)⟩ ⟨Nat.zero_le _, Nat.zero_le _⟩ mPre_blind (va_recv hK hP (ci := 5) rfl cM_o) (mPre_call hP hK hN) rfl rfl hl.1 (Nat.le_of_ble_eq_true rfl) dX9_gloved_16 ?_
        refine lv_if_eq (tgt := 26) hx hb dX9_gloved_19 (by decide) (fun c19 => ?_) (fun c19 => ?_)
        · replace h := if_t c19 h
          refine lv_iconst (v := 0) hx hb dX9_gloved_26 (by decide) ?_
          refine lv_iadd hx hb dX9_gloved_27 ?_
          refine lv_istore_n (lv' := [(1, .int (v1 + (0 : Int32))), (0, .ref (xB X 0)), (2, .int v2)]) hx hb dX9_gloved_28 rfl hl (by decide) rfl (fun ls hl => ?_)
          refine lv_iinc (v := (v2 + (1 : Int32))) (lv' := [(2, .int (v2 + (1 : Int32))), (1, .int (v1 + (0 : Int32))), (0, .ref (xB X 0))]) hx hb dX9_gloved_29 hl (k := 2) rfl rfl (by decide) rfl (fun ls hl => ?_)
          refine lv_goto (tgt := 4) hx hb dX9_gloved_32 (by decide) ?_
          exact ih4 (v1 + (0 : Int32)) (v2 + (1 : Int32)) ls (lv_sub hl [2, 1, 0] rfl) h
        · replace h := if_f c19 h
          refine lv_iconst (v := 1) hx hb dX9_gloved_22 (by decide) ?_
          refine lv_goto (tgt := 27) hx hb dX9_gloved_23 (by decide) ?_
          refine lv_iadd hx hb dX9_gloved_27 ?_
          refine lv_istore_n (lv' := [(1, .int (v1 + (1 : Int32))), (0, .ref (xB X 0)), (2, .int v2)]) hx hb dX9_gloved_28 rfl hl (by decide) rfl (fun ls hl => ?_)
          refine lv_iinc (v := (v2 + (1 : Int32))) (lv' := [(2, .int (v2 + (1 : Int32))), (1, .int (v1 + (1 : Int32))), (0, .ref (xB X 0))]) hx hb dX9_gloved_29 hl (k := 2) rfl rfl (by decide) rfl (fun ls hl => ?_)
          refine lv_goto (tgt := 4) hx hb dX9_gloved_32 (by decide) ?_
          exact ih4 (v1 + (1 : Int32)) (v2 + (1 : Int32)) ls (lv_sub hl [2, 1, 0] rfl) h
  rw [X9_gloved] at h
  refine lv_iconst (v := 0) hx hb dX9_gloved_0 (by decide) ?_
  refine lv_istore_n (lv' := [(1, .int (0 : Int32)), (0, .ref (xB X 0))]) hx hb dX9_gloved_1 rfl hl (by decide) rfl (fun ls hl => ?_)
  refine lv_iconst (v := 0) hx hb dX9_gloved_2 (by decide) ?_
  refine lv_istore_n (lv' := [(2, .int (0 : Int32)), (1, .int (0 : Int32)), (0, .ref (xB X 0))]) hx hb dX9_gloved_3 rfl hl (by decide) rfl (fun ls hl => ?_)
  exact hL4 500 (0 : Int32) (0 : Int32) ls (lv_sub hl [2, 1, 0] rfl) h
set_option maxRecDepth 100000 in
set_option maxHeartbeats 4000000 in
theorem c_X9_count (l : Launch) (X : gX) (mi : Nat → Int32) (ml : Nat → Int64) (ma : Nat → Nat → Int32) (mb : Nat → Nat → Int64) (a1 : Int32) {o0 : Int32} (h : X9_count mi ma a1 = some o0) : Met l yX9_count (Cond.code yX9_count cX9_count 2 (some .int) :: gT) { frames := 2, cells := 0, slots := 0, locals := 46 } (va_Pc [.ref (xB X 0), .int a1] (mPre X mi ml ma mb)) (k2_QcV (.int o0)) 0 0 (fun _ => False) := by
  refine Met.ofW (cc := cX9_count) (maxL := 2) (ret := (some .int)) (by decide) rfl ?_
  intro p e s m args below meth c s₁ B hml hv
  obtain ⟨rfl, hP, hK, hN⟩ := hv
  have hx := B.exec
  have hb := B.bytes
  have hr := B.returns
  have hts := atoms_spec (ws := (Cond.code yX9_count cX9_count 2 (some .int) :: gT)) B.pre
  have hT : ∀ w ∈ gT, w.before _ s = true := fun w hw => hts w (List.mem_cons_of_mem _ hw)
  have hown : s.vm.findClass RX9 = some m.cls := findClass_of_methodNamed B.named
  have hlocks := B.notSynchronized
  have hS : va_S (mA X) s.heap s.heap [] := va_S.rf
  have hl := lv_entry ([.ref (xB X 0), .int a1]) (n := 2) (Nat.le_of_ble_eq_true rfl)
  rw [lg_entry_eq]
  generalize (lg_sl ([.ref (xB X 0), .int a1]) ++ List.replicate (2 - (lg_sl ([.ref (xB X 0), .int a1])).length) Slot.unset).toArray = ls at hl ⊢
  have hl : lv_has ls 2 [(0, .ref (xB X 0)), (1, .int a1)] := hl
  rw [X9_count] at h
  refine lv_iload_n hx hb dX9_count_0 rfl (lv_at hl 1 rfl) ?_
  by_cases q1_0 : a1 = (0 : Int32)
  · replace h := if_t q1_0 h
    refine lv_tableIn (tgt := 52) (off := 51) hx hb dX9_count_1 (by rw [q1_0]; decide) (by rw [q1_0]; decide) (by rw [q1_0]; rfl) (by decide) ?_
    refine lv_aload_n hx hb dX9_count_52 rfl (lv_at hl 0 rfl) ?_
    refine rg_M_people hx hb hT hown hK hP w_779 dX9_count_53 ?_
    cases h
    exact W.iret hx hb hr (fun t ht _ => ⟨rfl, ht⟩) (fun _ hq => by cases hq) dX9_count_56
  replace h := if_f q1_0 h
  by_cases q1_1 : a1 = (1 : Int32)
  · replace h := if_t q1_1 h
    refine lv_tableIn (tgt := 57) (off := 56) hx hb dX9_count_1 (by rw [q1_1]; decide) (by rw [q1_1]; decide) (by rw [q1_1]; rfl) (by decide) ?_
    refine lv_aload_n hx hb dX9_count_57 rfl (lv_at hl 0 rfl) ?_
    refine rg_M_deeds hx hb hT hown hK hP w_786 dX9_count_58 ?_
    cases h
    exact W.iret hx hb hr (fun t ht _ => ⟨rfl, ht⟩) (fun _ hq => by cases hq) dX9_count_61
  replace h := if_f q1_1 h
  by_cases q1_2 : a1 = (2 : Int32)
  · replace h := if_t q1_2 h
    refine lv_tableIn (tgt := 62) (off := 61) hx hb dX9_count_1 (by rw [q1_2]; decide) (by rw [q1_2]; decide) (by rw [q1_2]; rfl) (by decide) ?_
    refine lv_aload_n hx hb dX9_count_62 rfl (lv_at hl 0 rfl) ?_
    refine rg_M_day hx hb hT hown hK hP w_785 dX9_count_63 ?_
    cases h
    exact W.iret hx hb hr (fun t ht _ => ⟨rfl, ht⟩) (fun _ hq => by cases hq) dX9_count_66
  replace h := if_f q1_2 h
  by_cases q1_3 : a1 = (3 : Int32)
  · replace h := if_t q1_3 h
    refine lv_tableIn (tgt := 67) (off := 66) hx hb dX9_count_1 (by rw [q1_3]; decide) (by rw [q1_3]; decide) (by rw [q1_3]; rfl) (by decide) ?_
    refine lv_aload_n hx hb dX9_count_67 rfl (lv_at hl 0 rfl) ?_
    obtain ⟨r68, hc68, h⟩ := Option.bind_eq_some_iff.mp h
    refine rcV (As := []) (rest := []) ⟨hx, hb, hml, hown, hts⟩ (c_X9_stuckSet l X mi ml ma mb hc68) ⟨w_1022, w_1024, w_26, w_58, w_1025⟩ hd_X9_stuckSet rfl rfl ⟨(Nat.le_of_ble_eq_true rfl), (Nat.le_of_ble_eq_true rfl)⟩ ⟨Nat.zero_le _, Nat.zero_le _⟩ mPre_blind (va_recv hK hP (ci := 5) rfl cM_o) (mPre_call hP hK hN) rfl rfl hl.1 (Nat.le_of_ble_eq_true rfl) dX9_count_68 ?_
    obtain ⟨r71, hc71, h⟩ := Option.bind_eq_some_iff.mp h
    refine rcS (As := [.int r68]) (rest := []) ⟨hx, hb, hml, hown, hts⟩ (c_X9_bits l r68 hc71) ⟨w_1030, w_1031, w_58, w_1032⟩ hd_X9_bits rfl rfl ⟨(Nat.le_of_ble_eq_true rfl), (Nat.le_of_ble_eq_true rfl)⟩ ⟨Nat.zero_le _, Nat.zero_le _⟩ (fun _ _ _ _ h => h) (fun _ _ _ => trivial) rfl rfl hl.1 (Nat.le_of_ble_eq_true rfl) dX9_count_71 ?_
    cases h
    exact W.iret hx hb hr (fun t ht _ => ⟨rfl, ht⟩) (fun _ hq => by cases hq) dX9_count_74
  replace h := if_f q1_3 h
  by_cases q1_4 : a1 = (4 : Int32)
  · replace h := if_t q1_4 h
    refine lv_tableIn (tgt := 75) (off := 74) hx hb dX9_count_1 (by rw [q1_4]; decide) (by rw [q1_4]; decide) (by rw [q1_4]; rfl) (by decide) ?_
    refine lv_aload_n hx hb dX9_count_75 rfl (lv_at hl 0 rfl) ?_
    obtain ⟨r76, hc76, h⟩ := Option.bind_eq_some_iff.mp h
    refine rcV (As := []) (rest := []) ⟨hx, hb, hml, hown, hts⟩ (c_X9_deepest l X mi ml ma mb hc76) ⟨w_1018, w_1020, w_25, w_58, w_1021⟩ hd_X9_deepest rfl rfl ⟨(Nat.le_of_ble_eq_true rfl), (Nat.le_of_ble_eq_true rfl)⟩ ⟨Nat.zero_le _, Nat.zero_le _⟩ mPre_blind (va_recv hK hP (ci := 5) rfl cM_o) (mPre_call hP hK hN) rfl rfl hl.1 (Nat.le_of_ble_eq_true rfl) dX9_count_76 ?_
    cases h
    exact W.iret hx hb hr (fun t ht _ => ⟨rfl, ht⟩) (fun _ hq => by cases hq) dX9_count_79
  replace h := if_f q1_4 h
  by_cases q1_5 : a1 = (5 : Int32)
  · replace h := if_t q1_5 h
    refine lv_tableIn (tgt := 80) (off := 79) hx hb dX9_count_1 (by rw [q1_5]; decide) (by rw [q1_5]; decide) (by rw [q1_5]; rfl) (by decide) ?_
    refine lv_aload_n hx hb dX9_count_80 rfl (lv_at hl 0 rfl) ?_
    obtain ⟨r81, hc81, h⟩ := Option.bind_eq_some_iff.mp h
    refine rcV (As := []) (rest := []) ⟨hx, hb, hml, hown, hts⟩ (c_X9_gloved l X mi ml ma mb hc81) ⟨w_1274, w_1276, w_50, w_58, w_1277⟩ hd_X9_gloved rfl rfl ⟨(Nat.le_of_ble_eq_true rfl), (Nat.le_of_ble_eq_true rfl)⟩ ⟨Nat.zero_le _, Nat.zero_le _⟩ mPre_blind (va_recv hK hP (ci := 5) rfl cM_o) (mPre_call hP hK hN) rfl rfl hl.1 (Nat.le_of_ble_eq_true rfl) dX9_count_81 ?_
    cases h
    exact W.iret hx hb hr (fun t ht _ => ⟨rfl, ht⟩) (fun _ hq => by cases hq) dX9_count_84
  replace h := if_f q1_5 h
  by_cases q1_6 : a1 = (6 : Int32)
  · replace h := if_t q1_6 h
    refine lv_tableIn (tgt := 85) (off := 84) hx hb dX9_count_1 (by rw [q1_6]; decide) (by rw [q1_6]; decide) (by rw [q1_6]; rfl) (by decide) ?_
    refine lv_aload_n hx hb dX9_count_85 rfl (lv_at hl 0 rfl) ?_
    refine rg_M_rowSize hx hb hT hown hK hP w_796 dX9_count_86 ?_
    obtain ⟨r89, hc89, h⟩ := Option.bind_eq_some_iff.mp h
    refine rcS (As := [.ref (xB X 11)]) (rest := []) ⟨hx, hb, hml, hown, hts⟩ (c_X9_there_10 l X mi ml ma mb hc89) ⟨w_1278, w_1279, w_58, w_1280⟩ hd_X9_there rfl rfl ⟨(Nat.le_of_ble_eq_true rfl), (Nat.le_of_ble_eq_true rfl)⟩ ⟨Nat.zero_le _, Nat.zero_le _⟩ mPre_blind (mPre_call hP hK hN) rfl rfl hl.1 (Nat.le_of_ble_eq_true rfl) dX9_count_89 ?_
    cases h
    exact W.iret hx hb hr (fun t ht _ => ⟨rfl, ht⟩) (fun _ hq => by cases hq) dX9_count_92
  replace h := if_f q1_6 h
  by_cases q1_7 : a1 = (7 : Int32)
  · replace h := if_t q1_7 h
    refine lv_tableIn (tgt := 93) (off := 92) hx hb dX9_count_1 (by rw [q1_7]; decide) (by rw [q1_7]; decide) (by rw [q1_7]; rfl) (by decide) ?_
    refine lv_aload_n hx hb dX9_count_93 rfl (lv_at hl 0 rfl) ?_
    refine rg_M_textSize hx hb hT hown hK hP w_798 dX9_count_94 ?_
    obtain ⟨r97, hc97, h⟩ := Option.bind_eq_some_iff.mp h
    refine rcS (As := [.ref (xB X 13)]) (rest := []) ⟨hx, hb, hml, hown, hts⟩ (c_X9_there_12 l X mi ml ma mb hc97) ⟨w_1278, w_1279, w_58, w_1280⟩ hd_X9_there rfl rfl ⟨(Nat.le_of_ble_eq_true rfl), (Nat.le_of_ble_eq_true rfl)⟩ ⟨Nat.zero_le _, Nat.zero_le _⟩ mPre_blind (mPre_call hP hK hN) rfl rfl hl.1 (Nat.le_of_ble_eq_true rfl) dX9_count_97 ?_
    cases h
    exact W.iret hx hb hr (fun t ht _ => ⟨rfl, ht⟩) (fun _ hq => by cases hq) dX9_count_100
  replace h := if_f q1_7 h
  by_cases q1_8 : a1 = (8 : Int32)
  · replace h := if_t q1_8 h
    refine lv_tableIn (tgt := 101) (off := 100) hx hb dX9_count_1 (by rw [q1_8]; decide) (by rw [q1_8]; decide) (by rw [q1_8]; rfl) (by decide) ?_
    refine lv_aload_n hx hb dX9_count_101 rfl (lv_at hl 0 rfl) ?_
    refine rg_M_keptDeeds hx hb hT hown hK hP w_800 dX9_count_102 ?_
    obtain ⟨r105, hc105, h⟩ := Option.bind_eq_some_iff.mp h
    refine rcS (As := [.ref (xB X 15)]) (rest := []) ⟨hx, hb, hml, hown, hts⟩ (c_X9_there_14 l X mi ml ma mb hc105) ⟨w_1278, w_1279, w_58, w_1280⟩ hd_X9_there rfl rfl ⟨(Nat.le_of_ble_eq_true rfl), (Nat.le_of_ble_eq_true rfl)⟩ ⟨Nat.zero_le _, Nat.zero_le _⟩ mPre_blind (mPre_call hP hK hN) rfl rfl hl.1 (Nat.le_of_ble_eq_true rfl) dX9_count_105 ?_
    cases h
    exact W.iret hx hb hr (fun t ht _ => ⟨rfl, ht⟩) (fun _ hq => by cases hq) dX9_count_108
  replace h := if_f q1_8 h
  refine lv_tableOut (tgt := 109) hx hb dX9_count_1 (by have := tb_0_8 a1 q1_0 q1_1 q1_2 q1_3 q1_4 q1_5 q1_6 q1_7 q1_8; exact this) (by decide) ?_
  refine lv_iconst (v := -1) hx hb dX9_count_109 (by decide) ?_
  cases h
  exact W.iret hx hb hr (fun t ht _ => ⟨rfl, ht⟩) (fun _ hq => by cases hq) dX9_count_110
set_option maxRecDepth 100000 in
set_option maxHeartbeats 4000000 in
theorem c_X9_finding (l : Launch) (X : gX) (mi : Nat → Int32) (ml : Nat → Int64) (ma : Nat → Nat → Int32) (mb : Nat → Nat → Int64) {o0 : Int32} (h : X9_finding mi = some o0) : Met l yX9_finding (Cond.code yX9_finding cX9_finding 1 (some .int) :: gT) { frames := 0, cells := 0, slots := 0, locals := 0 } (va_Pc [.ref (xB X 0)] (mPre X mi ml ma mb)) (k2_QcV (.int o0)) 0 0 (fun _ => False) := by
  refine Met.ofW (cc := cX9_finding) (maxL := 1) (ret := (some .int)) (by decide) rfl ?_
  intro p e s m args below meth c s₁ B hml hv
  obtain ⟨rfl, hP, hK, hN⟩ := hv
  have hx := B.exec
  have hb := B.bytes
  have hr := B.returns
  have hts := atoms_spec (ws := (Cond.code yX9_finding cX9_finding 1 (some .int) :: gT)) B.pre
  have hT : ∀ w ∈ gT, w.before _ s = true := fun w hw => hts w (List.mem_cons_of_mem _ hw)
  have hown : s.vm.findClass RX9 = some m.cls := findClass_of_methodNamed B.named
  have hlocks := B.notSynchronized
  have hS : va_S (mA X) s.heap s.heap [] := va_S.rf
  have hl := lv_entry ([.ref (xB X 0)]) (n := 1) (Nat.le_of_ble_eq_true rfl)
  rw [lg_entry_eq]
  generalize (lg_sl ([.ref (xB X 0)]) ++ List.replicate (1 - (lg_sl ([.ref (xB X 0)])).length) Slot.unset).toArray = ls at hl ⊢
  have hl : lv_has ls 1 [(0, .ref (xB X 0))] := hl
  rw [X9_finding] at h
  refine lv_aload_n hx hb dX9_finding_0 rfl (lv_at hl 0 rfl) ?_
  refine rg_M_finding hx hb hT hown hK hP w_794 dX9_finding_1 ?_
  cases h
  exact W.iret hx hb hr (fun t ht _ => ⟨rfl, ht⟩) (fun _ hq => by cases hq) dX9_finding_4
set_option maxRecDepth 100000 in
set_option maxHeartbeats 4000000 in
theorem c_X9_findings (l : Launch) (X : gX) (mi : Nat → Int32) (ml : Nat → Int64) (ma : Nat → Nat → Int32) (mb : Nat → Nat → Int64) (a1 : Int32) {o0 : Int32} (h : X9_findings ma a1 = some o0) : Met l yX9_findings (Cond.code yX9_findings cX9_findings 2 (some .int) :: gT) { frames := 1, cells := 0, slots := 0, locals := 25 } (va_Pc [.ref (xB X 0), .int a1] (mPre X mi ml ma mb)) (k2_QcV (.int o0)) 0 0 (fun _ => False) := by
  refine Met.ofW (cc := cX9_findings) (maxL := 2) (ret := (some .int)) (by decide) rfl ?_
  intro p e s m args below meth c s₁ B hml hv
  obtain ⟨rfl, hP, hK, hN⟩ := hv
  have hx := B.exec
  have hb := B.bytes
  have hr := B.returns
  have hts := atoms_spec (ws := (Cond.code yX9_findings cX9_findings 2 (some .int) :: gT)) B.pre
  have hT : ∀ w ∈ gT, w.before _ s = true := fun w hw => hts w (List.mem_cons_of_mem _ hw)
  have hown : s.vm.findClass RX9 = some m.cls := findClass_of_methodNamed B.named
  have hlocks := B.notSynchronized
  have hS : va_S (mA X) s.heap s.heap [] := va_S.rf
  have hl := lv_entry ([.ref (xB X 0), .int a1]) (n := 2) (Nat.le_of_ble_eq_true rfl)
  rw [lg_entry_eq]
  generalize (lg_sl ([.ref (xB X 0), .int a1]) ++ List.replicate (2 - (lg_sl ([.ref (xB X 0), .int a1])).length) Slot.unset).toArray = ls at hl ⊢
  have hl : lv_has ls 2 [(0, .ref (xB X 0)), (1, .int a1)] := hl
  rw [X9_findings] at h
  refine lv_iload_n hx hb dX9_findings_0 rfl (lv_at hl 1 rfl) ?_
  refine lv_i2l hx hb dX9_findings_1 rfl ?_
  refine lv_lconst (v := 1) hx hb dX9_findings_2 (by decide) ?_
  refine lv_ldc2 (v := 5) hx hb hown (hT _ w_911) dX9_findings_3 ?_
  obtain ⟨r6, hc6, h⟩ := Option.bind_eq_some_iff.mp h
  refine rcS (As := [.long a1.toInt64, .long (1 : Int64), .long (5 : Int64)]) (rest := []) ⟨hx, hb, hml, hown, hts⟩ (c_X9_in l a1.toInt64 (1 : Int64) (5 : Int64) hc6) ⟨w_912, w_913, w_58, w_914⟩ hd_X9_in rfl rfl ⟨(Nat.le_of_ble_eq_true rfl), (Nat.le_of_ble_eq_true rfl)⟩ ⟨Nat.zero_le _, Nat.zero_le _⟩ (fun _ _ _ _ h => h) (fun _ _ _ => trivial) rfl rfl hl.1 (Nat.le_of_ble_eq_true rfl) dX9_findings_6 ?_
  refine lv_if_eq (tgt := 21) hx hb dX9_findings_9 (by decide) (fun c9 => ?_) (fun c9 => ?_)
  · replace h := if_t c9 h
    refine lv_iconst (v := -1) hx hb dX9_findings_21 (by decide) ?_
    cases h
    exact W.iret hx hb hr (fun t ht _ => ⟨rfl, ht⟩) (fun _ hq => by cases hq) dX9_findings_22
  · replace h := if_f c9 h
    refine lv_aload_n hx hb dX9_findings_12 rfl (lv_at hl 0 rfl) ?_
    refine rg_M_findings hx hb hT hown hK hP w_795 dX9_findings_13 ?_
    refine lv_iload_n hx hb dX9_findings_16 rfl (lv_at hl 1 rfl) ?_
    obtain ⟨hi17, h⟩ := gd_e h
    refine ra_m9 hx hb hK hP (ib_in hi17) dX9_findings_17 ?_
    refine lv_goto (tgt := 22) hx hb dX9_findings_18 (by decide) ?_
    cases h
    exact W.iret hx hb hr (fun t ht _ => ⟨rfl, ht⟩) (fun _ hq => by cases hq) dX9_findings_22
set_option maxRecDepth 100000 in
set_option maxHeartbeats 4000000 in
theorem c_X9_digest (l : Launch) (X : gX) (mi : Nat → Int32) (ml : Nat → Int64) (ma : Nat → Nat → Int32) (mb : Nat → Nat → Int64) {o0 : Int64} (h : X9_digest mi ma = some o0) : Met l yX9_digest (Cond.code yX9_digest cX9_digest 5 (some .long) :: gT) { frames := 3, cells := 0, slots := 0, locals := 67 } (va_Pc [.ref (xB X 0)] (mPre X mi ml ma mb)) (k2_QcV (.long o0)) 0 0 (fun _ => False) := by
  refine Met.ofW (cc := cX9_digest) (maxL := 5) (ret := (some .long)) (by decide) rfl ?_
  intro p e s m args below meth c s₁ B hml hv
  obtain ⟨rfl, hP, hK, hN⟩ := hv
  have hx := B.exec
  have hb := B.bytes
  have hr := B.returns
  have hts := atoms_spec (ws := (Cond.code yX9_digest cX9_digest 5 (some .long) :: gT)) B.pre
  have hT : ∀ w ∈ gT, w.before _ s = true := fun w hw => hts w (List.mem_cons_of_mem _ hw)
  have hown : s.vm.findClass RX9 = some m.cls := findClass_of_methodNamed B.named
  have hlocks := B.notSynchronized
  have hS : va_S (mA X) s.heap s.heap [] := va_S.rf
  have hl := lv_entry ([.ref (xB X 0)]) (n := 5) (Nat.le_of_ble_eq_true rfl)
  rw [lg_entry_eq]
  generalize (lg_sl ([.ref (xB X 0)]) ++ List.replicate (5 - (lg_sl ([.ref (xB X 0)])).length) Slot.unset).toArray = ls at hl ⊢
  have hl : lv_has ls 5 [(0, .ref (xB X 0))] := hl
  have hL175 : ∀ (n175 : Nat) (v1 : Int64) (v3 : Int32) (ls : Array Slot), lv_has ls 5 [(0, .ref (xB X 0)), (1, .long v1), (3, .int v3)] → X9_digest_175 mi ma n175 v1 v3 = some o0 → W p l e (headSpec (Cond.code yX9_digest cX9_digest 5 (some .long) :: gT) { frames := 3, cells := 0, slots := 0, locals := 67 }).room s m [.ref (xB X 0)].toArray below meth c s.heap [] 0 0 (MQ below (k2_QcV (.long o0)) [.ref (xB X 0)].toArray s 0 0 (fun _ => False)) (F0 m 175 ls []) := by
    intro n175
    induction n175 with
    | zero =>
      intro v1 v3 ls hl h
      rw [X9_digest_175] at h
      cases h
    | succ n175 ih175 =>
      intro v1 v3 ls hl h
      rw [X9_digest_175] at h
      have hL197 : ∀ (n197 : Nat) (v1 : Int64) (v3 : Int32) (v4 : Int32) (ls : Array Slot), lv_has ls 5 [(0, .ref (xB X 0)), (1, .long v1), (3, .int v3), (4, .int v4)] → X9_digest_197 mi ma (X9_digest_175 mi ma n175) n197 v1 v3 v4 = some o0 → W p l e (headSpec (Cond.code yX9_digest cX9_digest 5 (some .long) :: gT) { frames := 3, cells := 0, slots := 0, locals := 67 }).room s m [.ref (xB X 0)].toArray below meth c s.heap [] 0 0 (MQ below (k2_QcV (.long o0)) [.ref (xB X 0)].toArray s 0 0 (fun _ => False)) (F0 m 197 ls []) := by
        intro n197
        induction n197 with
        | zero =>
          intro v1 v3 v4 ls hl h
          rw [X9_digest_197] at h
          cases h
        | succ n197 ih197 =>
          intro v1 v3 v4 ls hl h
          rw [X9_digest_197] at h
          refine lv_iload hx hb dX9_digest_197 (lv_at hl 3 rfl) ?_
          refine lv_aload_n hx hb dX9_digest_199 rfl (lv_at hl 0 rfl) ?_
          refine rg_M_textSize hx hb hT hown hK hP w_798 dX9_digest_200 ?_
          refine lv_iload_n hx hb dX9_digest_203 rfl (lv_at hl 2 rfl) ?_
          obtain ⟨hi204, h⟩ := gd_e h
          refine ra_m12 hx hb hK hP (ib_in hi204) dX9_digest_204 ?_
          refine lv_icmp_ge (tgt := 234) hx hb dX9_digest_205 (by decide) (fun c205 => ?_) (fun c205 => ?_)
          · replace h := if_t c205 h
            refine lv_iinc (v := (v3 + (1 : Int32))) (lv' := [(3, .int (v3 + (1 : Int32))), (0, .ref (xB X 0)), (1, .long v1), (4, .int v4)]) hx hb dX9_digest_234 hl (k := 2) rfl rfl (by decide) rfl (fun ls hl => ?_)
            refine lv_goto (tgt := 175) hx hb dX9_digest_237 (by decide) ?_
            exact ih175 v1 (v3 + (1 : Int32)) ls (lv_sub hl [1, 2, 0] rfl) h
          · replace h := if_f c205 h
            refine lv_ldc2 (v := 31) hx hb hown (hT _ w_1294) dX9_digest_208 ?_
            refine lv_lload_n hx hb dX9_digest_211 rfl (lv_at hl 1 rfl) ?_
            refine lv_lmul hx hb dX9_digest_212 ?_
            refine lv_aload_n hx hb dX9_digest_213 rfl (lv_at hl 0 rfl) ?_
            refine rg_M_texts hx hb hT hown hK hP w_799 dX9_digest_214 ?_
            refine lv_bipush (v := 60) hx hb dX9_digest_217 (by decide) ?_
            refine lv_iload_n hx hb dX9_digest_219 rfl (lv_at hl 2 rfl) ?_
            refine lv_imul hx hb dX9_digest_220 ?_
            refine lv_iload hx hb dX9_digest_221 (lv_at hl 3 rfl) ?_
            refine lv_iadd hx hb dX9_digest_223 ?_
            obtain ⟨hi224, h⟩ := gd_e h
            refine ra_m13 hx hb hK hP (ib_in hi224) dX9_digest_224 ?_
            refine lv_i2l hx hb dX9_digest_225 rfl ?_
            refine lv_ladd hx hb dX9_digest_226 ?_
            refine lv_topl (fun v1_227 ev1_227 => ?_)
            replace h := lt_e h ev1_227
            refine lv_lstore_n (lv' := [(1, .long v1_227), (0, .ref (xB X 0)), (3, .int v3), (4, .int v4)]) hx hb dX9_digest_227 rfl hl (by decide) rfl (fun ls hl => ?_)
            refine lv_iinc (v := (v4 + (1 : Int32))) (lv' := [(4, .int (v4 + (1 : Int32))), (1, .long v1_227), (0, .ref (xB X 0)), (3, .int v3)]) hx hb dX9_digest_228 hl (k := 3) rfl rfl (by decide) rfl (fun ls hl => ?_)
            refine lv_goto (tgt := 197) hx hb dX9_digest_231 (by decide) ?_
            exact ih197 v1_227 v3 (v4 + (1 : Int32)) ls (lv_sub hl [2, 1, 3, 0] rfl) h
      refine lv_iload_n hx hb dX9_digest_175 rfl (lv_at hl 2 rfl) ?_
      refine lv_iconst (v := 4) hx hb dX9_digest_176 (by decide) ?_
      refine lv_icmp_ge (tgt := 240) hx hb dX9_digest_177 (by decide) (fun c177 => ?_) (fun c177 => ?_)
      · replace h := if_t c177 h
        refine lv_lload_n hx hb dX9_digest_240 rfl (lv_at hl 1 rfl) ?_
        cases h
        exact W.lret hx hb hr (fun t ht _ => ⟨rfl, ht⟩) (fun _ hq => by cases hq) dX9_digest_241
      · replace h := if_f c177 h
        refine lv_ldc2 (v := 31) hx hb hown (hT _ w_1294) dX9_digest_180 ?_
        refine lv_lload_n hx hb dX9_digest_183 rfl (lv_at hl 1 rfl) ?_
        refine lv_lmul hx hb dX9_digest_184 ?_
        refine lv_aload_n hx hb dX9_digest_185 rfl (lv_at hl 0 rfl) ?_
        refine rg_M_textSize hx hb hT hown hK hP w_798 dX9_digest_186 ?_
        refine lv_iload_n hx hb dX9_digest_189 rfl (lv_at hl 2 rfl) ?_
        obtain ⟨hi190, h⟩ := gd_e h
        refine ra_m12 hx hb hK hP (ib_in hi190) dX9_digest_190 ?_
        refine lv_i2l hx hb dX9_digest_191 rfl ?_
        refine lv_ladd hx hb dX9_digest_192 ?_
        refine lv_topl (fun v1_193 ev1_193 => ?_)
        replace h := lt_e h ev1_193
        refine lv_lstore_n (lv' := [(1, .long v1_193), (0, .ref (xB X 0)), (3, .int v3)]) hx hb dX9_digest_193 rfl hl (by decide) rfl (fun ls hl => ?_)
        refine lv_iconst (v := 0) hx hb dX9_digest_194 (by decide) ?_
        refine lv_istore (lv' := [(4, .int (0 : Int32)), (1, .long v1_193), (0, .ref (xB X 0)), (3, .int v3)]) hx hb dX9_digest_195 hl (by decide) rfl (fun ls hl => ?_)
        exact hL197 500 v1_193 v3 (0 : Int32) ls (lv_sub hl [2, 1, 3, 0] rfl) h
  have hL107 : ∀ (n107 : Nat) (v1 : Int64) (v3 : Int32) (ls : Array Slot), lv_has ls 5 [(0, .ref (xB X 0)), (1, .long v1), (3, .int v3)] → X9_digest_107 mi ma n107 v1 v3 = some o0 → W p l e (headSpec (Cond.code yX9_digest cX9_digest 5 (some .long) :: gT) { frames := 3, cells := 0, slots := 0, locals := 67 }).room s m [.ref (xB X 0)].toArray below meth c s.heap [] 0 0 (MQ below (k2_QcV (.long o0)) [.ref (xB X 0)].toArray s 0 0 (fun _ => False)) (F0 m 107 ls []) := by
    intro n107
    induction n107 with
    | zero =>
      intro v1 v3 ls hl h
      rw [X9_digest_107] at h
      cases h
    | succ n107 ih107 =>
      intro v1 v3 ls hl h
      rw [X9_digest_107] at h
      have hL130 : ∀ (n130 : Nat) (v1 : Int64) (v3 : Int32) (v4 : Int32) (ls : Array Slot), lv_has ls 5 [(0, .ref (xB X 0)), (1, .long v1), (3, .int v3), (4, .int v4)] → X9_digest_130 mi ma (X9_digest_107 mi ma n107) n130 v1 v3 v4 = some o0 → W p l e (headSpec (Cond.code yX9_digest cX9_digest 5 (some .long) :: gT) { frames := 3, cells := 0, slots := 0, locals := 67 }).room s m [.ref (xB X 0)].toArray below meth c s.heap [] 0 0 (MQ below (k2_QcV (.long o0)) [.ref (xB X 0)].toArray s 0 0 (fun _ => False)) (F0 m 130 ls []) := by
        intro n130
        induction n130 with
        | zero =>
          intro v1 v3 v4 ls hl h
          rw [X9_digest_130] at h
          cases h
        | succ n130 ih130 =>
          intro v1 v3 v4 ls hl h
          rw [X9_digest_130] at h
          refine lv_iload hx hb dX9_digest_130 (lv_at hl 3 rfl) ?_
          refine lv_aload_n hx hb dX9_digest_132 rfl (lv_at hl 0 rfl) ?_
          refine rg_M_rowSize hx hb hT hown hK hP w_796 dX9_digest_133 ?_
          refine lv_iload_n hx hb dX9_digest_136 rfl (lv_at hl 2 rfl) ?_
          obtain ⟨hi137, h⟩ := gd_e h
          refine ra_m10 hx hb hK hP (ib_in hi137) dX9_digest_137 ?_
          refine lv_icmp_ge (tgt := 167) hx hb dX9_digest_138 (by decide) (fun c138 => ?_) (fun c138 => ?_)
          · replace h := if_t c138 h
            refine lv_iinc (v := (v3 + (1 : Int32))) (lv' := [(3, .int (v3 + (1 : Int32))), (0, .ref (xB X 0)), (1, .long v1), (4, .int v4)]) hx hb dX9_digest_167 hl (k := 2) rfl rfl (by decide) rfl (fun ls hl => ?_)
            refine lv_goto (tgt := 107) hx hb dX9_digest_170 (by decide) ?_
            exact ih107 v1 (v3 + (1 : Int32)) ls (lv_sub hl [1, 2, 0] rfl) h
          · replace h := if_f c138 h
            refine lv_ldc2 (v := 31) hx hb hown (hT _ w_1294) dX9_digest_141 ?_
            refine lv_lload_n hx hb dX9_digest_144 rfl (lv_at hl 1 rfl) ?_
            refine lv_lmul hx hb dX9_digest_145 ?_
            refine lv_aload_n hx hb dX9_digest_146 rfl (lv_at hl 0 rfl) ?_
            refine rg_M_rows hx hb hT hown hK hP w_797 dX9_digest_147 ?_
            refine lv_bipush (v := 40) hx hb dX9_digest_150 (by decide) ?_
            refine lv_iload_n hx hb dX9_digest_152 rfl (lv_at hl 2 rfl) ?_
            refine lv_imul hx hb dX9_digest_153 ?_
            refine lv_iload hx hb dX9_digest_154 (lv_at hl 3 rfl) ?_
            refine lv_iadd hx hb dX9_digest_156 ?_
            obtain ⟨hi157, h⟩ := gd_e h
            refine ra_m11 hx hb hK hP (ib_in hi157) dX9_digest_157 ?_
            refine lv_i2l hx hb dX9_digest_158 rfl ?_
            refine lv_ladd hx hb dX9_digest_159 ?_
            refine lv_topl (fun v1_160 ev1_160 => ?_)
            replace h := lt_e h ev1_160
            refine lv_lstore_n (lv' := [(1, .long v1_160), (0, .ref (xB X 0)), (3, .int v3), (4, .int v4)]) hx hb dX9_digest_160 rfl hl (by decide) rfl (fun ls hl => ?_)
            refine lv_iinc (v := (v4 + (1 : Int32))) (lv' := [(4, .int (v4 + (1 : Int32))), (1, .long v1_160), (0, .ref (xB X 0)), (3, .int v3)]) hx hb dX9_digest_161 hl (k := 3) rfl rfl (by decide) rfl (fun ls hl => ?_)
            refine lv_goto (tgt := 130) hx hb dX9_digest_164 (by decide) ?_
            exact ih130 v1_160 v3 (v4 + (1 : Int32)) ls (lv_sub hl [2, 1, 3, 0] rfl) h
      refine lv_iload_n hx hb dX9_digest_107 rfl (lv_at hl 2 rfl) ?_
      refine lv_bipush (v := 6) hx hb dX9_digest_108 (by decide) ?_
      refine lv_icmp_ge (tgt := 173) hx hb dX9_digest_110 (by decide) (fun c110 => ?_) (fun c110 => ?_)
      · replace h := if_t c110 h
        refine lv_iconst (v := 0) hx hb dX9_digest_173 (by decide) ?_
        refine lv_istore_n (lv' := [(3, .int (0 : Int32)), (0, .ref (xB X 0)), (1, .long v1)]) hx hb dX9_digest_174 rfl hl (by decide) rfl (fun ls hl => ?_)
        exact hL175 500 v1 (0 : Int32) ls (lv_sub hl [1, 2, 0] rfl) h
      · replace h := if_f c110 h
        refine lv_ldc2 (v := 31) hx hb hown (hT _ w_1294) dX9_digest_113 ?_
        refine lv_lload_n hx hb dX9_digest_116 rfl (lv_at hl 1 rfl) ?_
        refine lv_lmul hx hb dX9_digest_117 ?_
        refine lv_aload_n hx hb dX9_digest_118 rfl (lv_at hl 0 rfl) ?_
        refine rg_M_rowSize hx hb hT hown hK hP w_796 dX9_digest_119 ?_
        refine lv_iload_n hx hb dX9_digest_122 rfl (lv_at hl 2 rfl) ?_
        obtain ⟨hi123, h⟩ := gd_e h
        refine ra_m10 hx hb hK hP (ib_in hi123) dX9_digest_123 ?_
        refine lv_i2l hx hb dX9_digest_124 rfl ?_
        refine lv_ladd hx hb dX9_digest_125 ?_
        refine lv_topl (fun v1_126 ev1_126 => ?_)
        replace h := lt_e h ev1_126
        refine lv_lstore_n (lv' := [(1, .long v1_126), (0, .ref (xB X 0)), (3, .int v3)]) hx hb dX9_digest_126 rfl hl (by decide) rfl (fun ls hl => ?_)
        refine lv_iconst (v := 0) hx hb dX9_digest_127 (by decide) ?_
        refine lv_istore (lv' := [(4, .int (0 : Int32)), (1, .long v1_126), (0, .ref (xB X 0)), (3, .int v3)]) hx hb dX9_digest_128 hl (by decide) rfl (fun ls hl => ?_)
        exact hL130 500 v1_126 v3 (0 : Int32) ls (lv_sub hl [2, 1, 3, 0] rfl) h
  have hL80 : ∀ (n80 : Nat) (v1 : Int64) (v3 : Int32) (ls : Array Slot), lv_has ls 5 [(0, .ref (xB X 0)), (1, .long v1), (3, .int v3)] → X9_digest_80 mi ma n80 v1 v3 = some o0 → W p l e (headSpec (Cond.code yX9_digest cX9_digest 5 (some .long) :: gT) { frames := 3, cells := 0, slots := 0, locals := 67 }).room s m [.ref (xB X 0)].toArray below meth c s.heap [] 0 0 (MQ below (k2_QcV (.long o0)) [.ref (xB X 0)].toArray s 0 0 (fun _ => False)) (F0 m 80 ls []) := by
    intro n80
    induction n80 with
    | zero =>
      intro v1 v3 ls hl h
      rw [X9_digest_80] at h
      cases h
    | succ n80 ih80 =>
      intro v1 v3 ls hl h
      rw [X9_digest_80] at h
      refine lv_iload_n hx hb dX9_digest_80 rfl (lv_at hl 2 rfl) ?_
      refine lv_iconst (v := 3) hx hb dX9_digest_81 (by decide) ?_
      refine lv_icmp_ge (tgt := 105) hx hb dX9_digest_82 (by decide) (fun c82 => ?_) (fun c82 => ?_)
      · replace h := if_t c82 h
        refine lv_iconst (v := 0) hx hb dX9_digest_105 (by decide) ?_
        refine lv_istore_n (lv' := [(3, .int (0 : Int32)), (0, .ref (xB X 0)), (1, .long v1)]) hx hb dX9_digest_106 rfl hl (by decide) rfl (fun ls hl => ?_)
        exact hL107 500 v1 (0 : Int32) ls (lv_sub hl [1, 2, 0] rfl) h
      · replace h := if_f c82 h
        refine lv_ldc2 (v := 31) hx hb hown (hT _ w_1294) dX9_digest_85 ?_
        refine lv_lload_n hx hb dX9_digest_88 rfl (lv_at hl 1 rfl) ?_
        refine lv_lmul hx hb dX9_digest_89 ?_
        refine lv_aload_n hx hb dX9_digest_90 rfl (lv_at hl 0 rfl) ?_
        refine rg_M_keptDeeds hx hb hT hown hK hP w_800 dX9_digest_91 ?_
        refine lv_iload_n hx hb dX9_digest_94 rfl (lv_at hl 2 rfl) ?_
        obtain ⟨hi95, h⟩ := gd_e h
        refine ra_m14 hx hb hK hP (ib_in hi95) dX9_digest_95 ?_
        refine lv_i2l hx hb dX9_digest_96 rfl ?_
        refine lv_ladd hx hb dX9_digest_97 ?_
        refine lv_topl (fun v1_98 ev1_98 => ?_)
        replace h := lt_e h ev1_98
        refine lv_lstore_n (lv' := [(1, .long v1_98), (0, .ref (xB X 0)), (3, .int v3)]) hx hb dX9_digest_98 rfl hl (by decide) rfl (fun ls hl => ?_)
        refine lv_iinc (v := (v3 + (1 : Int32))) (lv' := [(3, .int (v3 + (1 : Int32))), (1, .long v1_98), (0, .ref (xB X 0))]) hx hb dX9_digest_99 hl (k := 2) rfl rfl (by decide) rfl (fun ls hl => ?_)
        refine lv_goto (tgt := 80) hx hb dX9_digest_102 (by decide) ?_
        exact ih80 v1_98 (v3 + (1 : Int32)) ls (lv_sub hl [2, 1, 0] rfl) h
  have hL33 : ∀ (n33 : Nat) (v1 : Int64) (v3 : Int32) (ls : Array Slot), lv_has ls 5 [(0, .ref (xB X 0)), (1, .long v1), (3, .int v3)] → X9_digest_33 mi ma n33 v1 v3 = some o0 → W p l e (headSpec (Cond.code yX9_digest cX9_digest 5 (some .long) :: gT) { frames := 3, cells := 0, slots := 0, locals := 67 }).room s m [.ref (xB X 0)].toArray below meth c s.heap [] 0 0 (MQ below (k2_QcV (.long o0)) [.ref (xB X 0)].toArray s 0 0 (fun _ => False)) (F0 m 33 ls []) := by
    intro n33
    induction n33 with
    | zero =>
      intro v1 v3 ls hl h
      rw [X9_digest_33] at h
      cases h
    | succ n33 ih33 =>
      intro v1 v3 ls hl h
      rw [X9_digest_33] at h
      have hL44 : ∀ (n44 : Nat) (v1 : Int64) (v3 : Int32) (v4 : Int32) (ls : Array Slot), lv_has ls 5 [(0, .ref (xB X 0)), (1, .long v1), (3, .int v3), (4, .int v4)] → X9_digest_44 mi ma (X9_digest_33 mi ma n33) n44 v1 v3 v4 = some o0 → W p l e (headSpec (Cond.code yX9_digest cX9_digest 5 (some .long) :: gT) { frames := 3, cells := 0, slots := 0, locals := 67 }).room s m [.ref (xB X 0)].toArray below meth c s.heap [] 0 0 (MQ below (k2_QcV (.long o0)) [.ref (xB X 0)].toArray s 0 0 (fun _ => False)) (F0 m 44 ls []) := by
        intro n44
        induction n44 with
        | zero =>
          intro v1 v3 v4 ls hl h
          rw [X9_digest_44] at h
          cases h
        | succ n44 ih44 =>
          intro v1 v3 v4 ls hl h
          rw [X9_digest_44] at h
          refine lv_iload hx hb dX9_digest_44 (lv_at hl 3 rfl) ?_
          refine lv_bipush (v := 6) hx hb dX9_digest_46 (by decide) ?_
          refine lv_icmp_ge (tgt := 72) hx hb dX9_digest_48 (by decide) (fun c48 => ?_) (fun c48 => ?_)
          · replace h := if_t c48 h
            refine lv_iinc (v := (v3 + (1 : Int32))) (lv' := [(3, .int (v3 + (1 : Int32))), (0, .ref (xB X 0)), (1, .long v1), (4, .int v4)]) hx hb dX9_digest_72 hl (k := 2) rfl rfl (by decide) rfl (fun ls hl => ?_)
            refine lv_goto (tgt := 33) hx hb dX9_digest_75 (by decide) ?_
            exact ih33 v1 (v3 + (1 : Int32)) ls (lv_sub hl [1, 2, 0] rfl) h
          · replace h := if_f c48 h
            refine lv_ldc2 (v := 31) hx hb hown (hT _ w_1294) dX9_digest_51 ?_
            refine lv_lload_n hx hb dX9_digest_54 rfl (lv_at hl 1 rfl) ?_
            refine lv_lmul hx hb dX9_digest_55 ?_
            refine lv_aload_n hx hb dX9_digest_56 rfl (lv_at hl 0 rfl) ?_
            refine lv_iload_n hx hb dX9_digest_57 rfl (lv_at hl 2 rfl) ?_
            refine lv_iload hx hb dX9_digest_58 (lv_at hl 3 rfl) ?_
            obtain ⟨r60, hc60, h⟩ := Option.bind_eq_some_iff.mp h
            refine rcV (As := [.int v3, .int v4]) (rest := [.long ((31 : Int64) * v1)]) ⟨hx, hb, hml, hown, hts⟩ (c_X9_personOf l X mi ml ma mb v3 v4 hc60) ⟨w_990, w_992, w_19, w_58, w_993⟩ hd_X9_personOf rfl rfl ⟨(Nat.le_of_ble_eq_true rfl), (Nat.le_of_ble_eq_true rfl)⟩ ⟨Nat.zero_le _, Nat.zero_le _⟩ mPre_blind (va_recv hK hP (ci := 5) rfl cM_o) (mPre_call hP hK hN) rfl rfl hl.1 (Nat.le_of_ble_eq_true rfl) dX9_digest_60 ?_
            refine lv_i2l hx hb dX9_digest_63 rfl ?_
            refine lv_ladd hx hb dX9_digest_64 ?_
            refine lv_lstore_n (lv' := [(1, .long (((31 : Int64) * v1) + r60.toInt64)), (0, .ref (xB X 0)), (3, .int v3), (4, .int v4)]) hx hb dX9_digest_65 rfl hl (by decide) rfl (fun ls hl => ?_)
            refine lv_iinc (v := (v4 + (1 : Int32))) (lv' := [(4, .int (v4 + (1 : Int32))), (1, .long (((31 : Int64) * v1) + r60.toInt64)), (0, .ref (xB X 0)), (3, .int v3)]) hx hb dX9_digest_66 hl (k := 3) rfl rfl (by decide) rfl (fun ls hl => ?_)
            refine lv_goto (tgt := 44) hx hb dX9_digest_69 (by decide) ?_
            exact ih44 (((31 : Int64) * v1) + r60.toInt64) v3 (v4 + (1 : Int32)) ls (lv_sub hl [2, 1, 3, 0] rfl) h
      refine lv_iload_n hx hb dX9_digest_33 rfl (lv_at hl 2 rfl) ?_
      refine lv_aload_n hx hb dX9_digest_34 rfl (lv_at hl 0 rfl) ?_
      refine rg_M_people hx hb hT hown hK hP w_779 dX9_digest_35 ?_
      refine lv_icmp_ge (tgt := 78) hx hb dX9_digest_38 (by decide) (fun c38 => ?_) (fun c38 => ?_)
      · replace h := if_t c38 h
        refine lv_iconst (v := 0) hx hb dX9_digest_78 (by decide) ?_
        refine lv_istore_n (lv' := [(3, .int (0 : Int32)), (0, .ref (xB X 0)), (1, .long v1)]) hx hb dX9_digest_79 rfl hl (by decide) rfl (fun ls hl => ?_)
        exact hL80 500 v1 (0 : Int32) ls (lv_sub hl [1, 2, 0] rfl) h
      · replace h := if_f c38 h
        refine lv_iconst (v := 0) hx hb dX9_digest_41 (by decide) ?_
        refine lv_istore (lv' := [(4, .int (0 : Int32)), (0, .ref (xB X 0)), (1, .long v1), (3, .int v3)]) hx hb dX9_digest_42 hl (by decide) rfl (fun ls hl => ?_)
        exact hL44 500 v1 v3 (0 : Int32) ls (lv_sub hl [1, 2, 3, 0] rfl) h
  have hL6 : ∀ (n6 : Nat) (v1 : Int64) (v3 : Int32) (ls : Array Slot), lv_has ls 5 [(0, .ref (xB X 0)), (1, .long v1), (3, .int v3)] → X9_digest_6 mi ma n6 v1 v3 = some o0 → W p l e (headSpec (Cond.code yX9_digest cX9_digest 5 (some .long) :: gT) { frames := 3, cells := 0, slots := 0, locals := 67 }).room s m [.ref (xB X 0)].toArray below meth c s.heap [] 0 0 (MQ below (k2_QcV (.long o0)) [.ref (xB X 0)].toArray s 0 0 (fun _ => False)) (F0 m 6 ls []) := by
    intro n6
    induction n6 with
    | zero =>
      intro v1 v3 ls hl h
      rw [X9_digest_6] at h
      cases h
    | succ n6 ih6 =>
      intro v1 v3 ls hl h
      rw [X9_digest_6] at h
      refine lv_iload_n hx hb dX9_digest_6 rfl (lv_at hl 2 rfl) ?_
      refine lv_bipush (v := 9) hx hb dX9_digest_7 (by decide) ?_
      refine lv_icmp_ge (tgt := 31) hx hb dX9_digest_9 (by decide) (fun c9 => ?_) (fun c9 => ?_)
      · replace h := if_t c9 h
        refine lv_iconst (v := 0) hx hb dX9_digest_31 (by decide) ?_
        refine lv_istore_n (lv' := [(3, .int (0 : Int32)), (0, .ref (xB X 0)), (1, .long v1)]) hx hb dX9_digest_32 rfl hl (by decide) rfl (fun ls hl => ?_)
        exact hL33 500 v1 (0 : Int32) ls (lv_sub hl [1, 2, 0] rfl) h
      · replace h := if_f c9 h
        refine lv_ldc2 (v := 31) hx hb hown (hT _ w_1294) dX9_digest_12 ?_
        refine lv_lload_n hx hb dX9_digest_15 rfl (lv_at hl 1 rfl) ?_
        refine lv_lmul hx hb dX9_digest_16 ?_
        refine lv_aload_n hx hb dX9_digest_17 rfl (lv_at hl 0 rfl) ?_
        refine lv_iload_n hx hb dX9_digest_18 rfl (lv_at hl 2 rfl) ?_
        obtain ⟨r19, hc19, h⟩ := Option.bind_eq_some_iff.mp h
        refine rcV (As := [.int v3]) (rest := [.long ((31 : Int64) * v1)]) ⟨hx, hb, hml, hown, hts⟩ (c_X9_count l X mi ml ma mb v3 hc19) ⟨w_1295, w_1271, w_1272, w_58, w_1273⟩ hd_X9_count rfl rfl ⟨(Nat.le_of_ble_eq_true rfl), (Nat.le_of_ble_eq_true rfl)⟩ ⟨Nat.zero_le _, Nat.zero_le _⟩ mPre_blind (va_recv hK hP (ci := 5) rfl cM_o) (mPre_call hP hK hN) rfl rfl hl.1 (Nat.le_of_ble_eq_true rfl) dX9_digest_19 ?_
        refine lv_i2l hx hb dX9_digest_22 rfl ?_
        refine lv_ladd hx hb dX9_digest_23 ?_
        refine lv_lstore_n (lv' := [(1, .long (((31 : Int64) * v1) + r19.toInt64)), (0, .ref (xB X 0)), (3, .int v3)]) hx hb dX9_digest_24 rfl hl (by decide) rfl (fun ls hl => ?_)
        refine lv_iinc (v := (v3 + (1 : Int32))) (lv' := [(3, .int (v3 + (1 : Int32))), (1, .long (((31 : Int64) * v1) + r19.toInt64)), (0, .ref (xB X 0))]) hx hb dX9_digest_25 hl (k := 2) rfl rfl (by decide) rfl (fun ls hl => ?_)
        refine lv_goto (tgt := 6) hx hb dX9_digest_28 (by decide) ?_
        exact ih6 (((31 : Int64) * v1) + r19.toInt64) (v3 + (1 : Int32)) ls (lv_sub hl [2, 1, 0] rfl) h
  rw [X9_digest] at h
  refine lv_ldc2 (v := 17) hx hb hown (hT _ w_1293) dX9_digest_0 ?_
  refine lv_lstore_n (lv' := [(1, .long (17 : Int64)), (0, .ref (xB X 0))]) hx hb dX9_digest_3 rfl hl (by decide) rfl (fun ls hl => ?_)
  refine lv_iconst (v := 0) hx hb dX9_digest_4 (by decide) ?_
  refine lv_istore_n (lv' := [(3, .int (0 : Int32)), (1, .long (17 : Int64)), (0, .ref (xB X 0))]) hx hb dX9_digest_5 rfl hl (by decide) rfl (fun ls hl => ?_)
  exact hL6 500 (17 : Int64) (0 : Int32) ls (lv_sub hl [2, 1, 0] rfl) h
