set_option maxRecDepth 100000 in
set_option maxHeartbeats 4000000 in
theorem c_X8_count (l : Launch) (X : gX) (gi : Nat → Int32) (gl : Nat → Int64) (ga : Nat → Nat → Int32) (vS : Nat → Nat → Int32) (vF : Nat → Nat → Nat → Int32) (sN : Nat → Int32) (sF : Nat → Nat → Int32) (a1 : Int32) {o0 : Int32} (h : X8_count vS vF sN a1 = some o0) : Met l yX8_count (Cond.code yX8_count cX8_count 2 (some .int) :: gT) { frames := 4, cells := 0, slots := 0, locals := 88 } (va_Pc [.ref (xA X 0), .int a1] (gPre X gi gl ga vS vF sN sF)) (k2_QcV (.int o0)) 0 0 (fun _ => False) := by
  refine Met.ofW (cc := cX8_count) (maxL := 2) (ret := (some .int)) (by decide) rfl ?_
  intro p e s m args below meth c s₁ B hml hv
  obtain ⟨rfl, hP, hK, hN, hZ⟩ := hv
  have hx := B.exec
  have hb := B.bytes
  have hr := B.returns
  have hts := atoms_spec (ws := (Cond.code yX8_count cX8_count 2 (some .int) :: gT)) B.pre
  have hT : ∀ w ∈ gT, w.before _ s = true := fun w hw => hts w (List.mem_cons_of_mem _ hw)
  have hown : s.vm.findClass RX8 = some m.cls := findClass_of_methodNamed B.named
  have hlocks := B.notSynchronized
  have hS : va_S (gA X) s.heap s.heap [] := va_S.rf
  have hl := lv_entry ([.ref (xA X 0), .int a1]) (n := 2) (Nat.le_of_ble_eq_true rfl)
  rw [lg_entry_eq]
  generalize (lg_sl ([.ref (xA X 0), .int a1]) ++ List.replicate (2 - (lg_sl ([.ref (xA X 0), .int a1])).length) Slot.unset).toArray = ls at hl ⊢
  have hl : lv_has ls 2 [(0, .ref (xA X 0)), (1, .int a1)] := hl
  rw [X8_count] at h
  refine lv_iload_n hx hb dX8_count_0 rfl (lv_at hl 1 rfl) ?_
  refine lv_if_lt (tgt := 10) hx hb dX8_count_1 (by decide) (fun c1 => ?_) (fun c1 => ?_)
  · replace h := if_t c1 h
    refine lv_iconst (v := -1) hx hb dX8_count_10 (by decide) ?_
    cases h
    exact W.iret hx hb hr (fun t ht _ => ⟨rfl, ht⟩) (fun _ hq => by cases hq) dX8_count_11
  · replace h := if_f c1 h
    refine lv_iload_n hx hb dX8_count_4 rfl (lv_at hl 1 rfl) ?_
    refine lv_bipush (v := 9) hx hb dX8_count_5 (by decide) ?_
    refine lv_icmp_lt (tgt := 12) hx hb dX8_count_7 (by decide) (fun c7 => ?_) (fun c7 => ?_)
    · replace h := if_t c7 h
      refine lv_aload_n hx hb dX8_count_12 rfl (lv_at hl 0 rfl) ?_
      refine lv_iload_n hx hb dX8_count_13 rfl (lv_at hl 1 rfl) ?_
      obtain ⟨r14, hc14, h⟩ := Option.bind_eq_some_iff.mp h
      refine rcV (As := [.int a1]) (rest := []) ⟨hx, hb, hml, hown, hts⟩ (c_X8_counted l X gi gl ga vS vF sN sF a1 hc14) ⟨w_739, w_741, w_10, w_52, w_742⟩ hd_X8_counted rfl rfl ⟨(Nat.le_of_ble_eq_true rfl), (Nat.le_of_ble_eq_true rfl)⟩ ⟨Nat.zero_le _, Nat.zero_le _⟩ gPre_blind (va_recv hK hP (ci := 4) rfl cG_b0) (gPre_call hP hK hN hZ hS) rfl rfl hl.1 (Nat.le_of_ble_eq_true rfl) dX8_count_14 ?_
      cases h
      exact W.iret hx hb hr (fun t ht _ => ⟨rfl, ht⟩) (fun _ hq => by cases hq) dX8_count_17
    · replace h := if_f c7 h
      refine lv_iconst (v := -1) hx hb dX8_count_10 (by decide) ?_
      cases h
      exact W.iret hx hb hr (fun t ht _ => ⟨rfl, ht⟩) (fun _ hq => by cases hq) dX8_count_11
set_option maxRecDepth 100000 in
set_option maxHeartbeats 4000000 in
theorem c_X8_finding (l : Launch) (X : gX) (gi : Nat → Int32) (gl : Nat → Int64) (ga : Nat → Nat → Int32) (vS : Nat → Nat → Int32) (vF : Nat → Nat → Nat → Int32) (sN : Nat → Int32) (sF : Nat → Nat → Int32) {o0 : Int32} (h : X8_finding gi = some o0) : Met l yX8_finding (Cond.code yX8_finding cX8_finding 1 (some .int) :: gT) { frames := 0, cells := 0, slots := 0, locals := 0 } (va_Pc [.ref (xA X 0)] (gPre X gi gl ga vS vF sN sF)) (k2_QcV (.int o0)) 0 0 (fun _ => False) := by
  refine Met.ofW (cc := cX8_finding) (maxL := 1) (ret := (some .int)) (by decide) rfl ?_
  intro p e s m args below meth c s₁ B hml hv
  obtain ⟨rfl, hP, hK, hN, hZ⟩ := hv
  have hx := B.exec
  have hb := B.bytes
  have hr := B.returns
  have hts := atoms_spec (ws := (Cond.code yX8_finding cX8_finding 1 (some .int) :: gT)) B.pre
  have hT : ∀ w ∈ gT, w.before _ s = true := fun w hw => hts w (List.mem_cons_of_mem _ hw)
  have hown : s.vm.findClass RX8 = some m.cls := findClass_of_methodNamed B.named
  have hlocks := B.notSynchronized
  have hS : va_S (gA X) s.heap s.heap [] := va_S.rf
  have hl := lv_entry ([.ref (xA X 0)]) (n := 1) (Nat.le_of_ble_eq_true rfl)
  rw [lg_entry_eq]
  generalize (lg_sl ([.ref (xA X 0)]) ++ List.replicate (1 - (lg_sl ([.ref (xA X 0)])).length) Slot.unset).toArray = ls at hl ⊢
  have hl : lv_has ls 1 [(0, .ref (xA X 0))] := hl
  rw [X8_finding] at h
  refine lv_aload_n hx hb dX8_finding_0 rfl (lv_at hl 0 rfl) ?_
  refine rg_G_latestFinding hx hb hT hown hK hP w_193 dX8_finding_1 ?_
  cases h
  exact W.iret hx hb hr (fun t ht _ => ⟨rfl, ht⟩) (fun _ hq => by cases hq) dX8_finding_4
set_option maxRecDepth 100000 in
set_option maxHeartbeats 4000000 in
theorem c_X8_findings (l : Launch) (X : gX) (gi : Nat → Int32) (gl : Nat → Int64) (ga : Nat → Nat → Int32) (vS : Nat → Nat → Int32) (vF : Nat → Nat → Nat → Int32) (sN : Nat → Int32) (sF : Nat → Nat → Int32) (a1 : Int32) {o0 : Int32} (h : X8_findings ga a1 = some o0) : Met l yX8_findings (Cond.code yX8_findings cX8_findings 2 (some .int) :: gT) { frames := 0, cells := 0, slots := 0, locals := 0 } (va_Pc [.ref (xA X 0), .int a1] (gPre X gi gl ga vS vF sN sF)) (k2_QcV (.int o0)) 0 0 (fun _ => False) := by
  refine Met.ofW (cc := cX8_findings) (maxL := 2) (ret := (some .int)) (by decide) rfl ?_
  intro p e s m args below meth c s₁ B hml hv
  obtain ⟨rfl, hP, hK, hN, hZ⟩ := hv
  have hx := B.exec
  have hb := B.bytes
  have hr := B.returns
  have hts := atoms_spec (ws := (Cond.code yX8_findings cX8_findings 2 (some .int) :: gT)) B.pre
  have hT : ∀ w ∈ gT, w.before _ s = true := fun w hw => hts w (List.mem_cons_of_mem _ hw)
  have hown : s.vm.findClass RX8 = some m.cls := findClass_of_methodNamed B.named
  have hlocks := B.notSynchronized
  have hS : va_S (gA X) s.heap s.heap [] := va_S.rf
  have hl := lv_entry ([.ref (xA X 0), .int a1]) (n := 2) (Nat.le_of_ble_eq_true rfl)
  rw [lg_entry_eq]
  generalize (lg_sl ([.ref (xA X 0), .int a1]) ++ List.replicate (2 - (lg_sl ([.ref (xA X 0), .int a1])).length) Slot.unset).toArray = ls at hl ⊢
  have hl : lv_has ls 2 [(0, .ref (xA X 0)), (1, .int a1)] := hl
  rw [X8_findings] at h
  refine lv_iload_n hx hb dX8_findings_0 rfl (lv_at hl 1 rfl) ?_
  refine lv_iconst (v := 1) hx hb dX8_findings_1 (by decide) ?_
  refine lv_icmp_lt (tgt := 10) hx hb dX8_findings_2 (by decide) (fun c2 => ?_) (fun c2 => ?_)
  · replace h := if_t c2 h
    refine lv_iconst (v := -1) hx hb dX8_findings_10 (by decide) ?_
    cases h
    exact W.iret hx hb hr (fun t ht _ => ⟨rfl, ht⟩) (fun _ hq => by cases hq) dX8_findings_11
  · replace h := if_f c2 h
    refine lv_iload_n hx hb dX8_findings_5 rfl (lv_at hl 1 rfl) ?_
    refine lv_iconst (v := 5) hx hb dX8_findings_6 (by decide) ?_
    refine lv_icmp_le (tgt := 12) hx hb dX8_findings_7 (by decide) (fun c7 => ?_) (fun c7 => ?_)
    · replace h := if_t c7 h
      refine lv_aload_n hx hb dX8_findings_12 rfl (lv_at hl 0 rfl) ?_
      refine rg_G_findingCounts hx hb hT hown hK hP w_192 dX8_findings_13 ?_
      refine lv_iload_n hx hb dX8_findings_16 rfl (lv_at hl 1 rfl) ?_
      obtain ⟨hi17, h⟩ := gd_e h
      refine ra_g4 hx hb hK hP (ib_in hi17) dX8_findings_17 ?_
      cases h
      exact W.iret hx hb hr (fun t ht _ => ⟨rfl, ht⟩) (fun _ hq => by cases hq) dX8_findings_18
    · replace h := if_f c7 h
      refine lv_iconst (v := -1) hx hb dX8_findings_10 (by decide) ?_
      cases h
      exact W.iret hx hb hr (fun t ht _ => ⟨rfl, ht⟩) (fun _ hq => by cases hq) dX8_findings_11
set_option maxRecDepth 100000 in
set_option maxHeartbeats 4000000 in
theorem c_X8_digest (l : Launch) (X : gX) (gi : Nat → Int32) (gl : Nat → Int64) (ga : Nat → Nat → Int32) (vS : Nat → Nat → Int32) (vF : Nat → Nat → Nat → Int32) (sN : Nat → Int32) (sF : Nat → Nat → Int32) {o0 : Int64} (h : X8_digest vS vF sN sF = some o0) : Met l yX8_digest (Cond.code yX8_digest cX8_digest 5 (some .long) :: gT) { frames := 4, cells := 0, slots := 0, locals := 88 } (va_Pc [.ref (xA X 0)] (gPre X gi gl ga vS vF sN sF)) (k2_QcV (.long o0)) 0 0 (fun _ => False) := by
  refine Met.ofW (cc := cX8_digest) (maxL := 5) (ret := (some .long)) (by decide) rfl ?_
  intro p e s m args below meth c s₁ B hml hv
  obtain ⟨rfl, hP, hK, hN, hZ⟩ := hv
  have hx := B.exec
  have hb := B.bytes
  have hr := B.returns
  have hts := atoms_spec (ws := (Cond.code yX8_digest cX8_digest 5 (some .long) :: gT)) B.pre
  have hT : ∀ w ∈ gT, w.before _ s = true := fun w hw => hts w (List.mem_cons_of_mem _ hw)
  have hown : s.vm.findClass RX8 = some m.cls := findClass_of_methodNamed B.named
  have hlocks := B.notSynchronized
  have hS : va_S (gA X) s.heap s.heap [] := va_S.rf
  have hl := lv_entry ([.ref (xA X 0)]) (n := 5) (Nat.le_of_ble_eq_true rfl)
  rw [lg_entry_eq]
  generalize (lg_sl ([.ref (xA X 0)]) ++ List.replicate (5 - (lg_sl ([.ref (xA X 0)])).length) Slot.unset).toArray = ls at hl ⊢
  have hl : lv_has ls 5 [(0, .ref (xA X 0))] := hl
  have hL154 : ∀ (n154 : Nat) (v1 : Int64) (v3 : Int32) (ls : Array Slot), lv_has ls 5 [(0, .ref (xA X 0)), (1, .long v1), (3, .int v3)] → X8_digest_154 vS vF sN sF n154 v1 v3 = some o0 → W p l e (headSpec (Cond.code yX8_digest cX8_digest 5 (some .long) :: gT) { frames := 4, cells := 0, slots := 0, locals := 88 }).room s m [.ref (xA X 0)].toArray below meth c s.heap [] 0 0 (MQ below (k2_QcV (.long o0)) [.ref (xA X 0)].toArray s 0 0 (fun _ => False)) (F0 m 154 ls []) := by
    intro n154
    induction n154 with
    | zero =>
      intro v1 v3 ls hl h
      rw [X8_digest_154] at h
      cases h
    | succ n154 ih154 =>
      intro v1 v3 ls hl h
      rw [X8_digest_154] at h
      refine lv_iload_n hx hb dX8_digest_154 rfl (lv_at hl 2 rfl) ?_
      refine lv_iconst (v := 4) hx hb dX8_digest_155 (by decide) ?_
      refine lv_icmp_ge (tgt := 176) hx hb dX8_digest_156 (by decide) (fun c156 => ?_) (fun c156 => ?_)
      · replace h := if_t c156 h
        refine lv_lload_n hx hb dX8_digest_176 rfl (lv_at hl 1 rfl) ?_
        cases h
        exact W.lret hx hb hr (fun t ht _ => ⟨rfl, ht⟩) (fun _ hq => by cases hq) dX8_digest_177
      · replace h := if_f c156 h
        refine lv_aload_n hx hb dX8_digest_159 rfl (lv_at hl 0 rfl) ?_
        refine rg_G_texts hx hb hT hown hK hP w_187 dX8_digest_160 ?_
        refine lv_iload_n hx hb dX8_digest_163 rfl (lv_at hl 2 rfl) ?_
        obtain ⟨hi164, h⟩ := gd_e h
        refine rr_texts hx hb hK hP (ib_in hi164) dX8_digest_164 ?_
        refine lv_lload_n hx hb dX8_digest_165 rfl (lv_at hl 1 rfl) ?_
        obtain ⟨r166, hc166, h⟩ := Option.bind_eq_some_iff.mp h
        refine rcV (As := [.long v1]) (rest := []) ⟨hx, hb, hml, hown, hts⟩ (c_X6_mixInto l X gi gl ga vS vF sN sF (6 + v3.toNatClampNeg) (gj4 (ib_in hi164)) v1 hc166) ⟨w_768, w_769, w_770, w_56, w_771⟩ hd_X6_mixInto rfl rfl ⟨(Nat.le_of_ble_eq_true rfl), (Nat.le_of_ble_eq_true rfl)⟩ ⟨Nat.zero_le _, Nat.zero_le _⟩ gPre_blind (va_recv hK hP (ci := 2) rfl (cG_s (gj4 (ib_in hi164)))) (gPre_call hP hK hN hZ hS) rfl rfl hl.1 (Nat.le_of_ble_eq_true rfl) dX8_digest_166 ?_
        refine lv_lstore_n (lv' := [(1, .long r166), (0, .ref (xA X 0)), (3, .int v3)]) hx hb dX8_digest_169 rfl hl (by decide) rfl (fun ls hl => ?_)
        refine lv_iinc (v := (v3 + (1 : Int32))) (lv' := [(3, .int (v3 + (1 : Int32))), (1, .long r166), (0, .ref (xA X 0))]) hx hb dX8_digest_170 hl (k := 2) rfl rfl (by decide) rfl (fun ls hl => ?_)
        refine lv_goto (tgt := 154) hx hb dX8_digest_173 (by decide) ?_
        exact ih154 r166 (v3 + (1 : Int32)) ls (lv_sub hl [2, 1, 0] rfl) h
  have hL129 : ∀ (n129 : Nat) (v1 : Int64) (v3 : Int32) (ls : Array Slot), lv_has ls 5 [(0, .ref (xA X 0)), (1, .long v1), (3, .int v3)] → X8_digest_129 vS vF sN sF n129 v1 v3 = some o0 → W p l e (headSpec (Cond.code yX8_digest cX8_digest 5 (some .long) :: gT) { frames := 4, cells := 0, slots := 0, locals := 88 }).room s m [.ref (xA X 0)].toArray below meth c s.heap [] 0 0 (MQ below (k2_QcV (.long o0)) [.ref (xA X 0)].toArray s 0 0 (fun _ => False)) (F0 m 129 ls []) := by
    intro n129
    induction n129 with
    | zero =>
      intro v1 v3 ls hl h
      rw [X8_digest_129] at h
      cases h
    | succ n129 ih129 =>
      intro v1 v3 ls hl h
      rw [X8_digest_129] at h
      refine lv_iload_n hx hb dX8_digest_129 rfl (lv_at hl 2 rfl) ?_
      refine lv_bipush (v := 6) hx hb dX8_digest_130 (by decide) ?_
      refine lv_icmp_ge (tgt := 152) hx hb dX8_digest_132 (by decide) (fun c132 => ?_) (fun c132 => ?_)
      · replace h := if_t c132 h
        refine lv_iconst (v := 0) hx hb dX8_digest_152 (by decide) ?_
        refine lv_istore_n (lv' := [(3, .int (0 : Int32)), (0, .ref (xA X 0)), (1, .long v1)]) hx hb dX8_digest_153 rfl hl (by decide) rfl (fun ls hl => ?_)
        exact hL154 500 v1 (0 : Int32) ls (lv_sub hl [1, 2, 0] rfl) h
      · replace h := if_f c132 h
        refine lv_aload_n hx hb dX8_digest_135 rfl (lv_at hl 0 rfl) ?_
        refine rg_G_rows hx hb hT hown hK hP w_186 dX8_digest_136 ?_
        refine lv_iload_n hx hb dX8_digest_139 rfl (lv_at hl 2 rfl) ?_
        obtain ⟨hi140, h⟩ := gd_e h
        refine rr_rows hx hb hK hP (ib_in hi140) dX8_digest_140 ?_
        refine lv_lload_n hx hb dX8_digest_141 rfl (lv_at hl 1 rfl) ?_
        obtain ⟨r142, hc142, h⟩ := Option.bind_eq_some_iff.mp h
        refine rcV (As := [.long v1]) (rest := []) ⟨hx, hb, hml, hown, hts⟩ (c_X6_mixInto l X gi gl ga vS vF sN sF v3.toNatClampNeg (gj6 (ib_in hi140)) v1 hc142) ⟨w_768, w_769, w_770, w_56, w_771⟩ hd_X6_mixInto rfl rfl ⟨(Nat.le_of_ble_eq_true rfl), (Nat.le_of_ble_eq_true rfl)⟩ ⟨Nat.zero_le _, Nat.zero_le _⟩ gPre_blind (va_recv hK hP (ci := 2) rfl (cG_s (gj6 (ib_in hi140)))) (gPre_call hP hK hN hZ hS) rfl rfl hl.1 (Nat.le_of_ble_eq_true rfl) dX8_digest_142 ?_
        refine lv_lstore_n (lv' := [(1, .long r142), (0, .ref (xA X 0)), (3, .int v3)]) hx hb dX8_digest_145 rfl hl (by decide) rfl (fun ls hl => ?_)
        refine lv_iinc (v := (v3 + (1 : Int32))) (lv' := [(3, .int (v3 + (1 : Int32))), (1, .long r142), (0, .ref (xA X 0))]) hx hb dX8_digest_146 hl (k := 2) rfl rfl (by decide) rfl (fun ls hl => ?_)
        refine lv_goto (tgt := 129) hx hb dX8_digest_149 (by decide) ?_
        exact ih129 r142 (v3 + (1 : Int32)) ls (lv_sub hl [2, 1, 0] rfl) h
  have hL83 : ∀ (n83 : Nat) (v1 : Int64) (v3 : Int32) (ls : Array Slot), lv_has ls 5 [(0, .ref (xA X 0)), (1, .long v1), (3, .int v3)] → X8_digest_83 vS vF sN sF n83 v1 v3 = some o0 → W p l e (headSpec (Cond.code yX8_digest cX8_digest 5 (some .long) :: gT) { frames := 4, cells := 0, slots := 0, locals := 88 }).room s m [.ref (xA X 0)].toArray below meth c s.heap [] 0 0 (MQ below (k2_QcV (.long o0)) [.ref (xA X 0)].toArray s 0 0 (fun _ => False)) (F0 m 83 ls []) := by
    intro n83
    induction n83 with
    | zero =>
      intro v1 v3 ls hl h
      rw [X8_digest_83] at h
      cases h
    | succ n83 ih83 =>
      intro v1 v3 ls hl h
      rw [X8_digest_83] at h
      refine lv_iload_n hx hb dX8_digest_83 rfl (lv_at hl 2 rfl) ?_
      refine lv_iconst (v := 3) hx hb dX8_digest_84 (by decide) ?_
      refine lv_icmp_ge (tgt := 127) hx hb dX8_digest_85 (by decide) (fun c85 => ?_) (fun c85 => ?_)
      · replace h := if_t c85 h
        refine lv_iconst (v := 0) hx hb dX8_digest_127 (by decide) ?_
        refine lv_istore_n (lv' := [(3, .int (0 : Int32)), (0, .ref (xA X 0)), (1, .long v1)]) hx hb dX8_digest_128 rfl hl (by decide) rfl (fun ls hl => ?_)
        exact hL129 500 v1 (0 : Int32) ls (lv_sub hl [1, 2, 0] rfl) h
      · replace h := if_f c85 h
        refine lv_ldc2 (v := 31) hx hb hown (hT _ w_767) dX8_digest_88 ?_
        refine lv_lload_n hx hb dX8_digest_91 rfl (lv_at hl 1 rfl) ?_
        refine lv_lmul hx hb dX8_digest_92 ?_
        refine lv_aload_n hx hb dX8_digest_93 rfl (lv_at hl 0 rfl) ?_
        refine rg_G_kept hx hb hT hown hK hP w_189 dX8_digest_94 ?_
        refine lv_iload_n hx hb dX8_digest_97 rfl (lv_at hl 2 rfl) ?_
        obtain ⟨hi98, h⟩ := gd_e h
        refine rr_kept hx hb hK hP (ib_in hi98) dX8_digest_98 ?_
        refine rg_V_people (q := (1 + v3.toNatClampNeg)) hx hb hT hown hK hP (gq3 (ib_in hi98)) w_87 dX8_digest_99 ?_
        refine lv_if_ne (tgt := 109) hx hb dX8_digest_102 (by decide) (fun c102 => ?_) (fun c102 => ?_)
        · replace h := if_f c102 h
          refine lv_aload_n hx hb dX8_digest_109 rfl (lv_at hl 0 rfl) ?_
          refine rg_G_kept hx hb hT hown hK hP w_189 dX8_digest_110 ?_
          refine lv_iload_n hx hb dX8_digest_113 rfl (lv_at hl 2 rfl) ?_
          obtain ⟨hi114, h⟩ := gd_e h
          refine rr_kept hx hb hK hP (ib_in hi114) dX8_digest_114 ?_
          refine rg_V_deeds (q := (1 + v3.toNatClampNeg)) hx hb hT hown hK hP (gq3 (ib_in hi114)) w_91 dX8_digest_115 ?_
          refine lv_i2l hx hb dX8_digest_118 rfl ?_
          refine lv_ladd hx hb dX8_digest_119 ?_
          refine lv_topl (fun v1_120 ev1_120 => ?_)
          replace h := lt_e h ev1_120
          refine lv_lstore_n (lv' := [(1, .long v1_120), (0, .ref (xA X 0)), (3, .int v3)]) hx hb dX8_digest_120 rfl hl (by decide) rfl (fun ls hl => ?_)
          refine lv_iinc (v := (v3 + (1 : Int32))) (lv' := [(3, .int (v3 + (1 : Int32))), (1, .long v1_120), (0, .ref (xA X 0))]) hx hb dX8_digest_121 hl (k := 2) rfl rfl (by decide) rfl (fun ls hl => ?_)
          refine lv_goto (tgt := 83) hx hb dX8_digest_124 (by decide) ?_
          exact ih83 v1_120 (v3 + (1 : Int32)) ls (lv_sub hl [2, 1, 0] rfl) h
        · replace h := if_t c102 h
          refine lv_iconst (v := -1) hx hb dX8_digest_105 (by decide) ?_
          refine lv_goto (tgt := 118) hx hb dX8_digest_106 (by decide) ?_
          refine lv_i2l hx hb dX8_digest_118 rfl ?_
          refine lv_ladd hx hb dX8_digest_119 ?_
          refine lv_lstore_n (lv' := [(1, .long (((31 : Int64) * v1) + (-1 : Int32).toInt64)), (0, .ref (xA X 0)), (3, .int v3)]) hx hb dX8_digest_120 rfl hl (by decide) rfl (fun ls hl => ?_)
          refine lv_iinc (v := (v3 + (1 : Int32))) (lv' := [(3, .int (v3 + (1 : Int32))), (1, .long (((31 : Int64) * v1) + (-1 : Int32).toInt64)), (0, .ref (xA X 0))]) hx hb dX8_digest_121 hl (k := 2) rfl rfl (by decide) rfl (fun ls hl => ?_)
          refine lv_goto (tgt := 83) hx hb dX8_digest_124 (by decide) ?_
          exact ih83 (((31 : Int64) * v1) + (-1 : Int32).toInt64) (v3 + (1 : Int32)) ls (lv_sub hl [2, 1, 0] rfl) h
  have hL33 : ∀ (n33 : Nat) (v1 : Int64) (v3 : Int32) (ls : Array Slot), lv_has ls 5 [(0, .ref (xA X 0)), (1, .long v1), (3, .int v3)] → X8_digest_33 vS vF sN sF n33 v1 v3 = some o0 → W p l e (headSpec (Cond.code yX8_digest cX8_digest 5 (some .long) :: gT) { frames := 4, cells := 0, slots := 0, locals := 88 }).room s m [.ref (xA X 0)].toArray below meth c s.heap [] 0 0 (MQ below (k2_QcV (.long o0)) [.ref (xA X 0)].toArray s 0 0 (fun _ => False)) (F0 m 33 ls []) := by
    intro n33
    induction n33 with
    | zero =>
      intro v1 v3 ls hl h
      rw [X8_digest_33] at h
      cases h
    | succ n33 ih33 =>
      intro v1 v3 ls hl h
      rw [X8_digest_33] at h
      have hL47 : ∀ (n47 : Nat) (v1 : Int64) (v3 : Int32) (v4 : Int32) (ls : Array Slot), lv_has ls 5 [(0, .ref (xA X 0)), (1, .long v1), (3, .int v3), (4, .int v4)] → X8_digest_47 vS vF sN sF (X8_digest_33 vS vF sN sF n33) n47 v1 v3 v4 = some o0 → W p l e (headSpec (Cond.code yX8_digest cX8_digest 5 (some .long) :: gT) { frames := 4, cells := 0, slots := 0, locals := 88 }).room s m [.ref (xA X 0)].toArray below meth c s.heap [] 0 0 (MQ below (k2_QcV (.long o0)) [.ref (xA X 0)].toArray s 0 0 (fun _ => False)) (F0 m 47 ls []) := by
        intro n47
        induction n47 with
        | zero =>
          intro v1 v3 v4 ls hl h
          rw [X8_digest_47] at h
          cases h
        | succ n47 ih47 =>
          intro v1 v3 v4 ls hl h
          rw [X8_digest_47] at h
          refine lv_iload hx hb dX8_digest_47 (lv_at hl 3 rfl) ?_
          refine lv_bipush (v := 6) hx hb dX8_digest_49 (by decide) ?_
          refine lv_icmp_ge (tgt := 75) hx hb dX8_digest_51 (by decide) (fun c51 => ?_) (fun c51 => ?_)
          · replace h := if_t c51 h
            refine lv_iinc (v := (v3 + (1 : Int32))) (lv' := [(3, .int (v3 + (1 : Int32))), (0, .ref (xA X 0)), (1, .long v1), (4, .int v4)]) hx hb dX8_digest_75 hl (k := 2) rfl rfl (by decide) rfl (fun ls hl => ?_)
            refine lv_goto (tgt := 33) hx hb dX8_digest_78 (by decide) ?_
            exact ih33 v1 (v3 + (1 : Int32)) ls (lv_sub hl [1, 2, 0] rfl) h
          · replace h := if_f c51 h
            refine lv_ldc2 (v := 31) hx hb hown (hT _ w_767) dX8_digest_54 ?_
            refine lv_lload_n hx hb dX8_digest_57 rfl (lv_at hl 1 rfl) ?_
            refine lv_lmul hx hb dX8_digest_58 ?_
            refine lv_aload_n hx hb dX8_digest_59 rfl (lv_at hl 0 rfl) ?_
            refine lv_iload_n hx hb dX8_digest_60 rfl (lv_at hl 2 rfl) ?_
            refine lv_iload hx hb dX8_digest_61 (lv_at hl 3 rfl) ?_
            obtain ⟨r63, hc63, h⟩ := Option.bind_eq_some_iff.mp h
            refine rcV (As := [.int v3, .int v4]) (rest := [.long ((31 : Int64) * v1)]) ⟨hx, hb, hml, hown, hts⟩ (c_X8_fact l X gi gl ga vS vF sN sF v3 v4 hc63) ⟨w_332, w_334, w_2, w_52, w_335⟩ hd_X8_fact rfl rfl ⟨(Nat.le_of_ble_eq_true rfl), (Nat.le_of_ble_eq_true rfl)⟩ ⟨Nat.zero_le _, Nat.zero_le _⟩ gPre_blind (va_recv hK hP (ci := 4) rfl cG_b0) (gPre_call hP hK hN hZ hS) rfl rfl hl.1 (Nat.le_of_ble_eq_true rfl) dX8_digest_63 ?_
            refine lv_i2l hx hb dX8_digest_66 rfl ?_
            refine lv_ladd hx hb dX8_digest_67 ?_
            refine lv_lstore_n (lv' := [(1, .long (((31 : Int64) * v1) + r63.toInt64)), (0, .ref (xA X 0)), (3, .int v3), (4, .int v4)]) hx hb dX8_digest_68 rfl hl (by decide) rfl (fun ls hl => ?_)
            refine lv_iinc (v := (v4 + (1 : Int32))) (lv' := [(4, .int (v4 + (1 : Int32))), (1, .long (((31 : Int64) * v1) + r63.toInt64)), (0, .ref (xA X 0)), (3, .int v3)]) hx hb dX8_digest_69 hl (k := 3) rfl rfl (by decide) rfl (fun ls hl => ?_)
            refine lv_goto (tgt := 47) hx hb dX8_digest_72 (by decide) ?_
            exact ih47 (((31 : Int64) * v1) + r63.toInt64) v3 (v4 + (1 : Int32)) ls (lv_sub hl [2, 1, 3, 0] rfl) h
      refine lv_iload_n hx hb dX8_digest_33 rfl (lv_at hl 2 rfl) ?_
      refine lv_aload_n hx hb dX8_digest_34 rfl (lv_at hl 0 rfl) ?_
      refine rg_G_village hx hb hT hown hK hP w_188 dX8_digest_35 ?_
      refine rg_V_people (q := (0)) hx hb hT hown hK hP (by decide : 0 < 4) w_87 dX8_digest_38 ?_
      refine lv_icmp_ge (tgt := 81) hx hb dX8_digest_41 (by decide) (fun c41 => ?_) (fun c41 => ?_)
      · replace h := if_t c41 h
        refine lv_iconst (v := 0) hx hb dX8_digest_81 (by decide) ?_
        refine lv_istore_n (lv' := [(3, .int (0 : Int32)), (0, .ref (xA X 0)), (1, .long v1)]) hx hb dX8_digest_82 rfl hl (by decide) rfl (fun ls hl => ?_)
        exact hL83 500 v1 (0 : Int32) ls (lv_sub hl [1, 2, 0] rfl) h
      · replace h := if_f c41 h
        refine lv_iconst (v := 0) hx hb dX8_digest_44 (by decide) ?_
        refine lv_istore (lv' := [(4, .int (0 : Int32)), (0, .ref (xA X 0)), (1, .long v1), (3, .int v3)]) hx hb dX8_digest_45 hl (by decide) rfl (fun ls hl => ?_)
        exact hL47 500 v1 v3 (0 : Int32) ls (lv_sub hl [1, 2, 3, 0] rfl) h
  have hL6 : ∀ (n6 : Nat) (v1 : Int64) (v3 : Int32) (ls : Array Slot), lv_has ls 5 [(0, .ref (xA X 0)), (1, .long v1), (3, .int v3)] → X8_digest_6 vS vF sN sF n6 v1 v3 = some o0 → W p l e (headSpec (Cond.code yX8_digest cX8_digest 5 (some .long) :: gT) { frames := 4, cells := 0, slots := 0, locals := 88 }).room s m [.ref (xA X 0)].toArray below meth c s.heap [] 0 0 (MQ below (k2_QcV (.long o0)) [.ref (xA X 0)].toArray s 0 0 (fun _ => False)) (F0 m 6 ls []) := by
    intro n6
    induction n6 with
    | zero =>
      intro v1 v3 ls hl h
      rw [X8_digest_6] at h
      cases h
    | succ n6 ih6 =>
      intro v1 v3 ls hl h
      rw [X8_digest_6] at h
      refine lv_iload_n hx hb dX8_digest_6 rfl (lv_at hl 2 rfl) ?_
      refine lv_bipush (v := 9) hx hb dX8_digest_7 (by decide) ?_
      refine lv_icmp_ge (tgt := 31) hx hb dX8_digest_9 (by decide) (fun c9 => ?_) (fun c9 => ?_)
      · replace h := if_t c9 h
        refine lv_iconst (v := 0) hx hb dX8_digest_31 (by decide) ?_
        refine lv_istore_n (lv' := [(3, .int (0 : Int32)), (0, .ref (xA X 0)), (1, .long v1)]) hx hb dX8_digest_32 rfl hl (by decide) rfl (fun ls hl => ?_)
        exact hL33 500 v1 (0 : Int32) ls (lv_sub hl [1, 2, 0] rfl) h
      · replace h := if_f c9 h
        refine lv_ldc2 (v := 31) hx hb hown (hT _ w_767) dX8_digest_12 ?_
        refine lv_lload_n hx hb dX8_digest_15 rfl (lv_at hl 1 rfl) ?_
        refine lv_lmul hx hb dX8_digest_16 ?_
        refine lv_aload_n hx hb dX8_digest_17 rfl (lv_at hl 0 rfl) ?_
        refine lv_iload_n hx hb dX8_digest_18 rfl (lv_at hl 2 rfl) ?_
        obtain ⟨r19, hc19, h⟩ := Option.bind_eq_some_iff.mp h
        refine rcV (As := [.int v3]) (rest := [.long ((31 : Int64) * v1)]) ⟨hx, hb, hml, hown, hts⟩ (c_X8_counted l X gi gl ga vS vF sN sF v3 hc19) ⟨w_739, w_741, w_10, w_52, w_742⟩ hd_X8_counted rfl rfl ⟨(Nat.le_of_ble_eq_true rfl), (Nat.le_of_ble_eq_true rfl)⟩ ⟨Nat.zero_le _, Nat.zero_le _⟩ gPre_blind (va_recv hK hP (ci := 4) rfl cG_b0) (gPre_call hP hK hN hZ hS) rfl rfl hl.1 (Nat.le_of_ble_eq_true rfl) dX8_digest_19 ?_
        refine lv_i2l hx hb dX8_digest_22 rfl ?_
        refine lv_ladd hx hb dX8_digest_23 ?_
        refine lv_lstore_n (lv' := [(1, .long (((31 : Int64) * v1) + r19.toInt64)), (0, .ref (xA X 0)), (3, .int v3)]) hx hb dX8_digest_24 rfl hl (by decide) rfl (fun ls hl => ?_)
        refine lv_iinc (v := (v3 + (1 : Int32))) (lv' := [(3, .int (v3 + (1 : Int32))), (1, .long (((31 : Int64) * v1) + r19.toInt64)), (0, .ref (xA X 0))]) hx hb dX8_digest_25 hl (k := 2) rfl rfl (by decide) rfl (fun ls hl => ?_)
        refine lv_goto (tgt := 6) hx hb dX8_digest_28 (by decide) ?_
        exact ih6 (((31 : Int64) * v1) + r19.toInt64) (v3 + (1 : Int32)) ls (lv_sub hl [2, 1, 0] rfl) h
  rw [X8_digest] at h
  refine lv_ldc2 (v := 17) hx hb hown (hT _ w_766) dX8_digest_0 ?_
  refine lv_lstore_n (lv' := [(1, .long (17 : Int64)), (0, .ref (xA X 0))]) hx hb dX8_digest_3 rfl hl (by decide) rfl (fun ls hl => ?_)
  refine lv_iconst (v := 0) hx hb dX8_digest_4 (by decide) ?_
  refine lv_istore_n (lv' := [(3, .int (0 : Int32)), (1, .long (17 : Int64)), (0, .ref (xA X 0))]) hx hb dX8_digest_5 rfl hl (by decide) rfl (fun ls hl => ?_)
  exact hL6 500 (17 : Int64) (0 : Int32) ls (lv_sub hl [2, 1, 0] rfl) h
