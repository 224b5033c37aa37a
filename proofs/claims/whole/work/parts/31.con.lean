set_option maxRecDepth 100000 in
set_option maxHeartbeats 4000000 in
theorem c_X9_mayCome (l : Launch) (X : gX) (mi : Nat → Int32) (ml : Nat → Int64) (ma : Nat → Nat → Int32) (mb : Nat → Nat → Int64) (a1 : Int32) (a2 : Int32) {o0 : Int32} (h : X9_mayCome ma a1 a2 = some o0) : Met l yX9_mayCome (Cond.code yX9_mayCome cX9_mayCome 3 (some .boolean) :: gT) { frames := 1, cells := 0, slots := 0, locals := 21 } (va_Pc [.ref (xB X 0), .int a1, .int a2] (mPre X mi ml ma mb)) (k2_QcV (.int o0)) 0 0 (fun _ => False) := by
  refine Met.ofW (cc := cX9_mayCome) (maxL := 3) (ret := (some .boolean)) (by decide) rfl ?_
  intro p e s m args below meth c s₁ B hml hv
  obtain ⟨rfl, hP, hK, hN⟩ := hv
  have hx := B.exec
  have hb := B.bytes
  have hr := B.returns
  have hts := atoms_spec (ws := (Cond.code yX9_mayCome cX9_mayCome 3 (some .boolean) :: gT)) B.pre
  have hT : ∀ w ∈ gT, w.before _ s = true := fun w hw => hts w (List.mem_cons_of_mem _ hw)
  have hown : s.vm.findClass RX9 = some m.cls := findClass_of_methodNamed B.named
  have hlocks := B.notSynchronized
  have hS : va_S (mA X) s.heap s.heap [] := va_S.rf
  have hl := lv_entry ([.ref (xB X 0), .int a1, .int a2]) (n := 3) (Nat.le_of_ble_eq_true rfl)
  rw [lg_entry_eq]
  generalize (lg_sl ([.ref (xB X 0), .int a1, .int a2]) ++ List.replicate (3 - (lg_sl ([.ref (xB X 0), .int a1, .int a2])).length) Slot.unset).toArray = ls at hl ⊢
  have hl : lv_has ls 3 [(0, .ref (xB X 0)), (1, .int a1), (2, .int a2)] := hl
  rw [X9_mayCome] at h
  refine lv_aload_n hx hb dX9_mayCome_0 rfl (lv_at hl 0 rfl) ?_
  refine lv_iload_n hx hb dX9_mayCome_1 rfl (lv_at hl 1 rfl) ?_
  obtain ⟨r2, hc2, h⟩ := Option.bind_eq_some_iff.mp h
  refine rcV (As := [.int a1]) (rest := []) ⟨hx, hb, hml, hown, hts⟩ (c_X9_isStuck l X mi ml ma mb a1 hc2) ⟨w_1026, w_1028, w_27, w_58, w_1029⟩ hd_X9_isStuck rfl rfl ⟨(Nat.le_of_ble_eq_true rfl), (Nat.le_of_ble_eq_true rfl)⟩ ⟨Nat.zero_le _, Nat.zero_le _⟩ mPre_blind (va_recv hK hP (ci := 5) rfl cM_o) (mPre_call hP hK hN) rfl rfl hl.1 (Nat.le_of_ble_eq_true rfl) dX9_mayCome_2 ?_
  refine lv_if_eq (tgt := 44) hx hb dX9_mayCome_5 (by decide) (fun c5 => ?_) (fun c5 => ?_)
  · replace h := if_t c5 h
    refine lv_iconst (v := 0) hx hb dX9_mayCome_44 (by decide) ?_
    cases h
    exact W.zret (ty := .boolean) hx hb hr rfl (fun t ht _ => ⟨rfl, ht⟩) (fun _ hq => by cases hq) dX9_mayCome_45
  · replace h := if_f c5 h
    refine lv_iload_n hx hb dX9_mayCome_8 rfl (lv_at hl 2 rfl) ?_
    refine lv_iload_n hx hb dX9_mayCome_9 rfl (lv_at hl 1 rfl) ?_
    obtain ⟨r10, hc10, h⟩ := Option.bind_eq_some_iff.mp h
    refine rcS (As := [.int a2, .int a1]) (rest := []) ⟨hx, hb, hml, hown, hts⟩ (c_X9_has l a2 a1 hc10) ⟨w_1104, w_1105, w_58, w_1106⟩ hd_X9_has rfl rfl ⟨(Nat.le_of_ble_eq_true rfl), (Nat.le_of_ble_eq_true rfl)⟩ ⟨Nat.zero_le _, Nat.zero_le _⟩ (fun _ _ _ _ h => h) (fun _ _ _ => trivial) rfl rfl hl.1 (Nat.le_of_ble_eq_true rfl) dX9_mayCome_10 ?_
    refine lv_if_ne (tgt := 44) hx hb dX9_mayCome_13 (by decide) (fun c13 => ?_) (fun c13 => ?_)
    · replace h := if_f c13 h
      refine lv_iconst (v := 0) hx hb dX9_mayCome_44 (by decide) ?_
      cases h
      exact W.zret (ty := .boolean) hx hb hr rfl (fun t ht _ => ⟨rfl, ht⟩) (fun _ hq => by cases hq) dX9_mayCome_45
    · replace h := if_t c13 h
      refine lv_aload_n hx hb dX9_mayCome_16 rfl (lv_at hl 0 rfl) ?_
      refine rg_M_hangs hx hb hT hown hK hP w_782 dX9_mayCome_17 ?_
      refine lv_iload_n hx hb dX9_mayCome_20 rfl (lv_at hl 1 rfl) ?_
      obtain ⟨hi21, h⟩ := gd_e h
      refine ra_m2 hx hb hK hP (ib_in hi21) dX9_mayCome_21 ?_
      refine lv_bipush (v := 9) hx hb dX9_mayCome_22 (by decide) ?_
      refine lv_icmp_eq (tgt := 40) hx hb dX9_mayCome_24 (by decide) (fun c24 => ?_) (fun c24 => ?_)
      · replace h := if_t c24 h
        refine lv_iconst (v := 1) hx hb dX9_mayCome_40 (by decide) ?_
        refine lv_goto (tgt := 45) hx hb dX9_mayCome_41 (by decide) ?_
        cases h
        exact W.zret (ty := .boolean) hx hb hr rfl (fun t ht _ => ⟨rfl, ht⟩) (fun _ hq => by cases hq) dX9_mayCome_45
      · replace h := if_f c24 h
        refine lv_iload_n hx hb dX9_mayCome_27 rfl (lv_at hl 2 rfl) ?_
        refine lv_aload_n hx hb dX9_mayCome_28 rfl (lv_at hl 0 rfl) ?_
        refine rg_M_hangs hx hb hT hown hK hP w_782 dX9_mayCome_29 ?_
        refine lv_iload_n hx hb dX9_mayCome_32 rfl (lv_at hl 1 rfl) ?_
        obtain ⟨hi33, h⟩ := gd_e h
        refine ra_m2 hx hb hK hP (ib_in hi33) dX9_mayCome_33 ?_
        obtain ⟨r34, hc34, h⟩ := Option.bind_eq_some_iff.mp h
        refine rcS (As := [.int a2, .int (ma 2 a1.toNatClampNeg)]) (rest := []) ⟨hx, hb, hml, hown, hts⟩ (c_X9_has l a2 (ma 2 a1.toNatClampNeg) hc34) ⟨w_1104, w_1105, w_58, w_1106⟩ hd_X9_has rfl rfl ⟨(Nat.le_of_ble_eq_true rfl), (Nat.le_of_ble_eq_true rfl)⟩ ⟨Nat.zero_le _, Nat.zero_le _⟩ (fun _ _ _ _ h => h) (fun _ _ _ => trivial) rfl rfl hl.1 (Nat.le_of_ble_eq_true rfl) dX9_mayCome_34 ?_
        refine lv_if_eq (tgt := 44) hx hb dX9_mayCome_37 (by decide) (fun c37 => ?_) (fun c37 => ?_)
        · replace h := if_t c37 h
          refine lv_iconst (v := 0) hx hb dX9_mayCome_44 (by decide) ?_
          cases h
          exact W.zret (ty := .boolean) hx hb hr rfl (fun t ht _ => ⟨rfl, ht⟩) (fun _ hq => by cases hq) dX9_mayCome_45
        · replace h := if_f c37 h
          refine lv_iconst (v := 1) hx hb dX9_mayCome_40 (by decide) ?_
          refine lv_goto (tgt := 45) hx hb dX9_mayCome_41 (by decide) ?_
          cases h
          exact W.zret (ty := .boolean) hx hb hr rfl (fun t ht _ => ⟨rfl, ht⟩) (fun _ hq => by cases hq) dX9_mayCome_45
set_option maxRecDepth 100000 in
set_option maxHeartbeats 4000000 in
theorem c_X9_findBehind (l : Launch) (X : gX) (mi : Nat → Int32) (ml : Nat → Int64) (ma : Nat → Nat → Int32) (mb : Nat → Nat → Int64) {o_mb : Nat → Nat → Int64} (h : X9_findBehind mi ma mb = some o_mb) : Met l yX9_findBehind (Cond.code yX9_findBehind cX9_findBehind 4 none :: gT) { frames := 2, cells := 0, slots := 0, locals := 43 } (va_Pc [.ref (xB X 0)] (mPre X mi ml ma mb)) (wQ none (fun H => va_P X.1 vwCl (cM X mi ml ma o_mb) H) (mA X)) 0 0 (mA X) := by
  refine Met.ofW (cc := cX9_findBehind) (maxL := 4) (ret := none) (by decide) rfl ?_
  intro p e s m args below meth c s₁ B hml hv
  obtain ⟨rfl, hP, hK, hN⟩ := hv
  have hx := B.exec
  have hb := B.bytes
  have hr := B.returns
  have hts := atoms_spec (ws := (Cond.code yX9_findBehind cX9_findBehind 4 none :: gT)) B.pre
  have hT : ∀ w ∈ gT, w.before _ s = true := fun w hw => hts w (List.mem_cons_of_mem _ hw)
  have hown : s.vm.findClass RX9 = some m.cls := findClass_of_methodNamed B.named
  have hlocks := B.notSynchronized
  have hS : va_S (mA X) s.heap s.heap [] := va_S.rf
  have hl := lv_entry ([.ref (xB X 0)]) (n := 4) (Nat.le_of_ble_eq_true rfl)
  rw [lg_entry_eq]
  generalize (lg_sl ([.ref (xB X 0)]) ++ List.replicate (4 - (lg_sl ([.ref (xB X 0)])).length) Slot.unset).toArray = ls at hl ⊢
  have hl : lv_has ls 4 [(0, .ref (xB X 0))] := hl
  have hL8 : ∀ (n8 : Nat) (v1 : Int32) (v2 : Int32) (mb : Nat → Nat → Int64) (H : Heap) (locs : List Loc) (ls : Array Slot), lv_has ls 4 [(0, .ref (xB X 0)), (1, .int v1), (2, .int v2)] → va_P X.1 vwCl (cM X mi ml ma mb) H → va_S (mA X) s.heap H locs → X9_findBehind_8 mi ma n8 v1 v2 mb = some o_mb → W p l e (headSpec (Cond.code yX9_findBehind cX9_findBehind 4 none :: gT) { frames := 2, cells := 0, slots := 0, locals := 43 }).room s m [.ref (xB X 0)].toArray below meth c H locs 0 0 (MQ below (wQ none (fun H => va_P X.1 vwCl (cM X mi ml ma o_mb) H) (mA X)) [.ref (xB X 0)].toArray s 0 0 (mA X)) (F0 m 8 ls []) := by
    intro n8
    induction n8 with
    | zero =>
      intro v1 v2 mb H locs ls hl hP hS h
      rw [X9_findBehind_8] at h
      cases h
    | succ n8 ih8 =>
      intro v1 v2 mb H locs ls hl hP hS h
      rw [X9_findBehind_8] at h
      have hL30 : ∀ (n30 : Nat) (v1 : Int32) (v2 : Int32) (v3 : Int32) (mb : Nat → Nat → Int64) (H : Heap) (locs : List Loc) (ls : Array Slot), lv_has ls 4 [(0, .ref (xB X 0)), (1, .int v1), (2, .int v2), (3, .int v3)] → va_P X.1 vwCl (cM X mi ml ma mb) H → va_S (mA X) s.heap H locs → X9_findBehind_30 mi ma (X9_findBehind_8 mi ma n8) n30 v1 v2 v3 mb = some o_mb → W p l e (headSpec (Cond.code yX9_findBehind cX9_findBehind 4 none :: gT) { frames := 2, cells := 0, slots := 0, locals := 43 }).room s m [.ref (xB X 0)].toArray below meth c H locs 0 0 (MQ below (wQ none (fun H => va_P X.1 vwCl (cM X mi ml ma o_mb) H) (mA X)) [.ref (xB X 0)].toArray s 0 0 (mA X)) (F0 m 30 ls []) := by
        intro n30
        induction n30 with
        | zero =>
          intro v1 v2 v3 mb H locs ls hl hP hS h
          rw [X9_findBehind_30] at h
          cases h
        | succ n30 ih30 =>
          intro v1 v2 v3 mb H locs ls hl hP hS h
          rw [X9_findBehind_30] at h
          refine lv_iload_n hx hb dX9_findBehind_30 rfl (lv_at hl 3 rfl) ?_
          refine lv_aload_n hx hb dX9_findBehind_31 rfl (lv_at hl 0 rfl) ?_
          refine rg_M_people hx hb hT hown hK hP w_779 dX9_findBehind_32 ?_
          refine lv_icmp_ge (tgt := 84) hx hb dX9_findBehind_35 (by decide) (fun c35 => ?_) (fun c35 => ?_)
          · replace h := if_t c35 h
            refine lv_iinc (v := (v2 + (-1 : Int32))) (lv' := [(2, .int (v2 + (-1 : Int32))), (0, .ref (xB X 0)), (1, .int v1), (3, .int v3)]) hx hb dX9_findBehind_84 hl (k := 2) rfl rfl (by decide) rfl (fun ls hl => ?_)
            refine lv_goto (tgt := 8) hx hb dX9_findBehind_87 (by decide) ?_
            exact ih8 v1 (v2 + (-1 : Int32)) mb _ _ ls (lv_sub hl [1, 2, 0] rfl) hP hS h
          · replace h := if_f c35 h
            refine lv_iload_n hx hb dX9_findBehind_38 rfl (lv_at hl 2 rfl) ?_
            refine lv_iload_n hx hb dX9_findBehind_39 rfl (lv_at hl 1 rfl) ?_
            refine lv_iconst (v := -1) hx hb dX9_findBehind_40 (by decide) ?_
            refine lv_ixor hx hb dX9_findBehind_41 ?_
            refine lv_iand hx hb dX9_findBehind_42 ?_
            refine lv_if_ne (tgt := 84) hx hb dX9_findBehind_43 (by decide) (fun c43 => ?_) (fun c43 => ?_)
            · replace h := if_f c43 h
              refine lv_iinc (v := (v2 + (-1 : Int32))) (lv' := [(2, .int (v2 + (-1 : Int32))), (0, .ref (xB X 0)), (1, .int v1), (3, .int v3)]) hx hb dX9_findBehind_84 hl (k := 2) rfl rfl (by decide) rfl (fun ls hl => ?_)
              refine lv_goto (tgt := 8) hx hb dX9_findBehind_87 (by decide) ?_
              exact ih8 v1 (v2 + (-1 : Int32)) mb _ _ ls (lv_sub hl [1, 2, 0] rfl) hP hS h
            · replace h := if_t c43 h
              refine lv_aload_n hx hb dX9_findBehind_46 rfl (lv_at hl 0 rfl) ?_
              refine rg_M_behindSet hx hb hT hown hK hP w_817 dX9_findBehind_47 ?_
              refine lv_iload_n hx hb dX9_findBehind_50 rfl (lv_at hl 2 rfl) ?_
              refine lv_dup2_11 hx hb dX9_findBehind_51 rfl rfl ?_
              obtain ⟨hi52, h⟩ := gd_e h
              refine ra_b0 hx hb hK hP (ib_in hi52) dX9_findBehind_52 ?_
              refine lv_aload_n hx hb dX9_findBehind_53 rfl (lv_at hl 0 rfl) ?_
              refine lv_iload_n hx hb dX9_findBehind_54 rfl (lv_at hl 3 rfl) ?_
              refine lv_iload_n hx hb dX9_findBehind_55 rfl (lv_at hl 2 rfl) ?_
              obtain ⟨r56, hc56, h⟩ := Option.bind_eq_some_iff.mp h
              refine rcV (As := [.int v3, .int v2]) (rest := [.long (mb 0 v2.toNatClampNeg), .int v2, .ref (xB X 30)]) ⟨hx, hb, hml, hown, hts⟩ (c_X9_mayCome l X mi ml ma mb v3 v2 hc56) ⟨w_1196, w_1198, w_43, w_58, w_1199⟩ hd_X9_mayCome rfl rfl ⟨(Nat.le_of_ble_eq_true rfl), (Nat.le_of_ble_eq_true rfl)⟩ ⟨Nat.zero_le _, Nat.zero_le _⟩ mPre_blind (va_recv hK hP (ci := 5) rfl cM_o) (mPre_call hP hK hN) rfl rfl hl.1 (Nat.le_of_ble_eq_true rfl) dX9_findBehind_56 ?_
              refine lv_if_eq (tgt := 75) hx hb dX9_findBehind_59 (by decide) (fun c59 => ?_) (fun c59 => ?_)
              · replace h := if_t c59 h
                refine lv_lconst (v := 0) hx hb dX9_findBehind_75 (by decide) ?_
                refine lv_ladd hx hb dX9_findBehind_76 ?_
                obtain ⟨hi77, h⟩ := gd_e h
                refine rs_b0 hx hb hK hP hN hS (ib_in hi77) dX9_findBehind_77 (fun H locs hP hS => ?_)
                generalize emb_77 : va_up mb 0 (vp_updL (mb 0) v2.toNatClampNeg ((mb 0 v2.toNatClampNeg) + (0 : Int64))) = mb_77 at hP
                replace h := lt_g h emb_77
                refine lv_iinc (v := (v3 + (1 : Int32))) (lv' := [(3, .int (v3 + (1 : Int32))), (0, .ref (xB X 0)), (1, .int v1), (2, .int v2)]) hx hb dX9_findBehind_78 hl (k := 3) rfl rfl (by decide) rfl (fun ls hl => ?_)
                refine lv_goto (tgt := 30) hx hb dX9_findBehind_81 (by decide) ?_
                exact ih30 v1 v2 (v3 + (1 : Int32)) mb_77 _ _ ls (lv_sub hl [1, 2, 3, 0] rfl) hP hS h
              · replace h := if_f c59 h
                refine lv_aload_n hx hb dX9_findBehind_62 rfl (lv_at hl 0 rfl) ?_
                refine rg_M_behindSet hx hb hT hown hK hP w_817 dX9_findBehind_63 ?_
                refine lv_iload_n hx hb dX9_findBehind_66 rfl (lv_at hl 2 rfl) ?_
                refine lv_iconst (v := 1) hx hb dX9_findBehind_67 (by decide) ?_
                refine lv_iload_n hx hb dX9_findBehind_68 rfl (lv_at hl 3 rfl) ?_
                refine lv_ishl hx hb dX9_findBehind_69 ?_
                refine lv_ior hx hb dX9_findBehind_70 ?_
                obtain ⟨hi71, h⟩ := gd_e h
                refine ra_b0 hx hb hK hP (ib_in hi71) dX9_findBehind_71 ?_
                refine lv_goto (tgt := 76) hx hb dX9_findBehind_72 (by decide) ?_
                refine lv_ladd hx hb dX9_findBehind_76 ?_
                obtain ⟨hi77, h⟩ := gd_e h
                refine rs_b0 hx hb hK hP hN hS (ib_in hi77) dX9_findBehind_77 (fun H locs hP hS => ?_)
                generalize emb_77 : va_up mb 0 (vp_updL (mb 0) v2.toNatClampNeg ((mb 0 v2.toNatClampNeg) + (mb 0 (v2 ||| ((1 : Int32) <<< (v3 &&& 31))).toNatClampNeg))) = mb_77 at hP
                replace h := lt_g h emb_77
                refine lv_iinc (v := (v3 + (1 : Int32))) (lv' := [(3, .int (v3 + (1 : Int32))), (0, .ref (xB X 0)), (1, .int v1), (2, .int v2)]) hx hb dX9_findBehind_78 hl (k := 3) rfl rfl (by decide) rfl (fun ls hl => ?_)
                refine lv_goto (tgt := 30) hx hb dX9_findBehind_81 (by decide) ?_
                exact ih30 v1 v2 (v3 + (1 : Int32)) mb_77 _ _ ls (lv_sub hl [1, 2, 3, 0] rfl) hP hS h
      refine lv_iload_n hx hb dX9_findBehind_8 rfl (lv_at hl 2 rfl) ?_
      refine lv_if_lt (tgt := 90) hx hb dX9_findBehind_9 (by decide) (fun c9 => ?_) (fun c9 => ?_)
      · replace h := if_t c9 h
        cases h
        exact W.vret hx hb hr (fun t ht _ => ⟨rfl, by rw [ht]; exact hP, hS.F ht⟩) hS.2.2 dX9_findBehind_90
      · replace h := if_f c9 h
        refine lv_aload_n hx hb dX9_findBehind_12 rfl (lv_at hl 0 rfl) ?_
        refine rg_M_behindSet hx hb hT hown hK hP w_817 dX9_findBehind_13 ?_
        refine lv_iload_n hx hb dX9_findBehind_16 rfl (lv_at hl 2 rfl) ?_
        refine lv_iload_n hx hb dX9_findBehind_17 rfl (lv_at hl 2 rfl) ?_
        refine lv_iload_n hx hb dX9_findBehind_18 rfl (lv_at hl 1 rfl) ?_
        refine lv_icmp_ne (tgt := 26) hx hb dX9_findBehind_19 (by decide) (fun c19 => ?_) (fun c19 => ?_)
        · replace h := if_f c19 h
          refine lv_lconst (v := 0) hx hb dX9_findBehind_26 (by decide) ?_
          obtain ⟨hi27, h⟩ := gd_e h
          refine rs_b0 hx hb hK hP hN hS (ib_in hi27) dX9_findBehind_27 (fun H locs hP hS => ?_)
          generalize emb_27 : va_up mb 0 (vp_updL (mb 0) v2.toNatClampNeg (0 : Int64)) = mb_27 at hP
          replace h := lt_g h emb_27
          refine lv_iconst (v := 0) hx hb dX9_findBehind_28 (by decide) ?_
          refine lv_istore_n (lv' := [(3, .int (0 : Int32)), (0, .ref (xB X 0)), (1, .int v1), (2, .int v2)]) hx hb dX9_findBehind_29 rfl hl (by decide) rfl (fun ls hl => ?_)
          exact hL30 500 v1 v2 (0 : Int32) mb_27 _ _ ls (lv_sub hl [1, 2, 3, 0] rfl) hP hS h
        · replace h := if_t c19 h
          refine lv_lconst (v := 1) hx hb dX9_findBehind_22 (by decide) ?_
          refine lv_goto (tgt := 27) hx hb dX9_findBehind_23 (by decide) ?_
          obtain ⟨hi27, h⟩ := gd_e h
          refine rs_b0 hx hb hK hP hN hS (ib_in hi27) dX9_findBehind_27 (fun H locs hP hS => ?_)
          generalize emb_27 : va_up mb 0 (vp_updL (mb 0) v2.toNatClampNeg (1 : Int64)) = mb_27 at hP
          replace h := lt_g h emb_27
          refine lv_iconst (v := 0) hx hb dX9_findBehind_28 (by decide) ?_
          refine lv_istore_n (lv' := [(3, .int (0 : Int32)), (0, .ref (xB X 0)), (1, .int v1), (2, .int v2)]) hx hb dX9_findBehind_29 rfl hl (by decide) rfl (fun ls hl => ?_)
          exact hL30 500 v1 v2 (0 : Int32) mb_27 _ _ ls (lv_sub hl [1, 2, 3, 0] rfl) hP hS h
  rw [X9_findBehind] at h
  refine lv_aload_n hx hb dX9_findBehind_0 rfl (lv_at hl 0 rfl) ?_
  obtain ⟨r1, hc1, h⟩ := Option.bind_eq_some_iff.mp h
  refine rcV (As := []) (rest := []) ⟨hx, hb, hml, hown, hts⟩ (c_X9_stuckSet l X mi ml ma mb hc1) ⟨w_1022, w_1024, w_26, w_58, w_1025⟩ hd_X9_stuckSet rfl rfl ⟨(Nat.le_of_ble_eq_true rfl), (Nat.le_of_ble_eq_true rfl)⟩ ⟨Nat.zero_le _, Nat.zero_le _⟩ mPre_blind (va_recv hK hP (ci := 5) rfl cM_o) (mPre_call hP hK hN) rfl rfl hl.1 (Nat.le_of_ble_eq_true rfl) dX9_findBehind_1 ?_
  refine lv_istore_n (lv' := [(1, .int r1), (0, .ref (xB X 0))]) hx hb dX9_findBehind_4 rfl hl (by decide) rfl (fun ls hl => ?_)
  refine lv_bipush (v := 127) hx hb dX9_findBehind_5 (by decide) ?_
  refine lv_istore_n (lv' := [(2, .int (127 : Int32)), (1, .int r1), (0, .ref (xB X 0))]) hx hb dX9_findBehind_7 rfl hl (by decide) rfl (fun ls hl => ?_)
  exact hL8 500 r1 (127 : Int32) mb _ _ ls (lv_sub hl [2, 1, 0] rfl) hP hS h
set_option maxRecDepth 100000 in
set_option maxHeartbeats 4000000 in
theorem c_X9_findAhead (l : Launch) (X : gX) (mi : Nat → Int32) (ml : Nat → Int64) (ma : Nat → Nat → Int32) (mb : Nat → Nat → Int64) {o_mb : Nat → Nat → Int64} (h : X9_findAhead mi ma mb = some o_mb) : Met l yX9_findAhead (Cond.code yX9_findAhead cX9_findAhead 3 none :: gT) { frames := 2, cells := 0, slots := 0, locals := 43 } (va_Pc [.ref (xB X 0)] (mPre X mi ml ma mb)) (wQ none (fun H => va_P X.1 vwCl (cM X mi ml ma o_mb) H) (mA X)) 0 0 (mA X) := by
  refine Met.ofW (cc := cX9_findAhead) (maxL := 3) (ret := none) (by decide) rfl ?_
  intro p e s m args below meth c s₁ B hml hv
  obtain ⟨rfl, hP, hK, hN⟩ := hv
  have hx := B.exec
  have hb := B.bytes
  have hr := B.returns
  have hts := atoms_spec (ws := (Cond.code yX9_findAhead cX9_findAhead 3 none :: gT)) B.pre
  have hT : ∀ w ∈ gT, w.before _ s = true := fun w hw => hts w (List.mem_cons_of_mem _ hw)
  have hown : s.vm.findClass RX9 = some m.cls := findClass_of_methodNamed B.named
  have hlocks := B.notSynchronized
  have hS : va_S (mA X) s.heap s.heap [] := va_S.rf
  have hl := lv_entry ([.ref (xB X 0)]) (n := 3) (Nat.le_of_ble_eq_true rfl)
  rw [lg_entry_eq]
  generalize (lg_sl ([.ref (xB X 0)]) ++ List.replicate (3 - (lg_sl ([.ref (xB X 0)])).length) Slot.unset).toArray = ls at hl ⊢
  have hl : lv_has ls 3 [(0, .ref (xB X 0))] := hl
  have hL32 : ∀ (n32 : Nat) (v1 : Int32) (mb : Nat → Nat → Int64) (H : Heap) (locs : List Loc) (ls : Array Slot), lv_has ls 3 [(0, .ref (xB X 0)), (1, .int v1)] → va_P X.1 vwCl (cM X mi ml ma mb) H → va_S (mA X) s.heap H locs → X9_findAhead_32 mi ma n32 v1 mb = some o_mb → W p l e (headSpec (Cond.code yX9_findAhead cX9_findAhead 3 none :: gT) { frames := 2, cells := 0, slots := 0, locals := 43 }).room s m [.ref (xB X 0)].toArray below meth c H locs 0 0 (MQ below (wQ none (fun H => va_P X.1 vwCl (cM X mi ml ma o_mb) H) (mA X)) [.ref (xB X 0)].toArray s 0 0 (mA X)) (F0 m 32 ls []) := by
    intro n32
    induction n32 with
    | zero =>
      intro v1 mb H locs ls hl hP hS h
      rw [X9_findAhead_32] at h
      cases h
    | succ n32 ih32 =>
      intro v1 mb H locs ls hl hP hS h
      rw [X9_findAhead_32] at h
      have hL41 : ∀ (n41 : Nat) (v1 : Int32) (v2 : Int32) (mb : Nat → Nat → Int64) (H : Heap) (locs : List Loc) (ls : Array Slot), lv_has ls 3 [(0, .ref (xB X 0)), (1, .int v1), (2, .int v2)] → va_P X.1 vwCl (cM X mi ml ma mb) H → va_S (mA X) s.heap H locs → X9_findAhead_41 mi ma (X9_findAhead_32 mi ma n32) n41 v1 v2 mb = some o_mb → W p l e (headSpec (Cond.code yX9_findAhead cX9_findAhead 3 none :: gT) { frames := 2, cells := 0, slots := 0, locals := 43 }).room s m [.ref (xB X 0)].toArray below meth c H locs 0 0 (MQ below (wQ none (fun H => va_P X.1 vwCl (cM X mi ml ma o_mb) H) (mA X)) [.ref (xB X 0)].toArray s 0 0 (mA X)) (F0 m 41 ls []) := by
        intro n41
        induction n41 with
        | zero =>
          intro v1 v2 mb H locs ls hl hP hS h
          rw [X9_findAhead_41] at h
          cases h
        | succ n41 ih41 =>
          intro v1 v2 mb H locs ls hl hP hS h
          rw [X9_findAhead_41] at h
          refine lv_iload_n hx hb dX9_findAhead_41 rfl (lv_at hl 2 rfl) ?_
          refine lv_aload_n hx hb dX9_findAhead_42 rfl (lv_at hl 0 rfl) ?_
          refine rg_M_people hx hb hT hown hK hP w_779 dX9_findAhead_43 ?_
          refine lv_icmp_ge (tgt := 94) hx hb dX9_findAhead_46 (by decide) (fun c46 => ?_) (fun c46 => ?_)
          · replace h := if_t c46 h
            refine lv_iinc (v := (v1 + (1 : Int32))) (lv' := [(1, .int (v1 + (1 : Int32))), (0, .ref (xB X 0)), (2, .int v2)]) hx hb dX9_findAhead_94 hl (k := 1) rfl rfl (by decide) rfl (fun ls hl => ?_)
            refine lv_goto (tgt := 32) hx hb dX9_findAhead_97 (by decide) ?_
            exact ih32 (v1 + (1 : Int32)) mb _ _ ls (lv_sub hl [1, 0] rfl) hP hS h
          · replace h := if_f c46 h
            refine lv_aload_n hx hb dX9_findAhead_49 rfl (lv_at hl 0 rfl) ?_
            refine rg_M_aheadSet hx hb hT hown hK hP w_818 dX9_findAhead_50 ?_
            refine lv_iload_n hx hb dX9_findAhead_53 rfl (lv_at hl 1 rfl) ?_
            obtain ⟨hi54, h⟩ := gd_e h
            refine ra_b1 hx hb hK hP (ib_in hi54) dX9_findAhead_54 ?_
            refine lv_lconst (v := 0) hx hb dX9_findAhead_55 (by decide) ?_
            refine W.lcmp hx hb dX9_findAhead_56 ?_
            refine lv_if_le (tgt := 94) hx hb dX9_findAhead_57 (by decide) (fun c57 => ?_) (fun c57 => ?_)
            · replace h := if_t c57 h
              refine lv_iinc (v := (v1 + (1 : Int32))) (lv' := [(1, .int (v1 + (1 : Int32))), (0, .ref (xB X 0)), (2, .int v2)]) hx hb dX9_findAhead_94 hl (k := 1) rfl rfl (by decide) rfl (fun ls hl => ?_)
              refine lv_goto (tgt := 32) hx hb dX9_findAhead_97 (by decide) ?_
              exact ih32 (v1 + (1 : Int32)) mb _ _ ls (lv_sub hl [1, 0] rfl) hP hS h
            · replace h := if_f c57 h
              refine lv_aload_n hx hb dX9_findAhead_60 rfl (lv_at hl 0 rfl) ?_
              refine lv_iload_n hx hb dX9_findAhead_61 rfl (lv_at hl 2 rfl) ?_
              refine lv_iload_n hx hb dX9_findAhead_62 rfl (lv_at hl 1 rfl) ?_
              obtain ⟨r63, hc63, h⟩ := Option.bind_eq_some_iff.mp h
              refine rcV (As := [.int v2, .int v1]) (rest := []) ⟨hx, hb, hml, hown, hts⟩ (c_X9_mayCome l X mi ml ma mb v2 v1 hc63) ⟨w_1196, w_1198, w_43, w_58, w_1199⟩ hd_X9_mayCome rfl rfl ⟨(Nat.le_of_ble_eq_true rfl), (Nat.le_of_ble_eq_true rfl)⟩ ⟨Nat.zero_le _, Nat.zero_le _⟩ mPre_blind (va_recv hK hP (ci := 5) rfl cM_o) (mPre_call hP hK hN) rfl rfl hl.1 (Nat.le_of_ble_eq_true rfl) dX9_findAhead_63 ?_
              refine lv_if_eq (tgt := 88) hx hb dX9_findAhead_66 (by decide) (fun c66 => ?_) (fun c66 => ?_)
              · replace h := if_t c66 h
                refine lv_iinc (v := (v2 + (1 : Int32))) (lv' := [(2, .int (v2 + (1 : Int32))), (0, .ref (xB X 0)), (1, .int v1)]) hx hb dX9_findAhead_88 hl (k := 2) rfl rfl (by decide) rfl (fun ls hl => ?_)
                refine lv_goto (tgt := 41) hx hb dX9_findAhead_91 (by decide) ?_
                exact ih41 v1 (v2 + (1 : Int32)) mb _ _ ls (lv_sub hl [1, 2, 0] rfl) hP hS h
              · replace h := if_f c66 h
                refine lv_aload_n hx hb dX9_findAhead_69 rfl (lv_at hl 0 rfl) ?_
                refine rg_M_aheadSet hx hb hT hown hK hP w_818 dX9_findAhead_70 ?_
                refine lv_iload_n hx hb dX9_findAhead_73 rfl (lv_at hl 1 rfl) ?_
                refine lv_iconst (v := 1) hx hb dX9_findAhead_74 (by decide) ?_
                refine lv_iload_n hx hb dX9_findAhead_75 rfl (lv_at hl 2 rfl) ?_
                refine lv_ishl hx hb dX9_findAhead_76 ?_
                refine lv_ior hx hb dX9_findAhead_77 ?_
                refine lv_dup2_11 hx hb dX9_findAhead_78 rfl rfl ?_
                obtain ⟨hi79, h⟩ := gd_e h
                refine ra_b1 hx hb hK hP (ib_in hi79) dX9_findAhead_79 ?_
                refine lv_aload_n hx hb dX9_findAhead_80 rfl (lv_at hl 0 rfl) ?_
                refine rg_M_aheadSet hx hb hT hown hK hP w_818 dX9_findAhead_81 ?_
                refine lv_iload_n hx hb dX9_findAhead_84 rfl (lv_at hl 1 rfl) ?_
                obtain ⟨hi85, h⟩ := gd_e h
                refine ra_b1 hx hb hK hP (ib_in hi85) dX9_findAhead_85 ?_
                refine lv_ladd hx hb dX9_findAhead_86 ?_
                obtain ⟨hi87, h⟩ := gd_e h
                refine rs_b1 hx hb hK hP hN hS (ib_in hi87) dX9_findAhead_87 (fun H locs hP hS => ?_)
                generalize emb_87 : va_up mb 1 (vp_updL (mb 1) (v1 ||| ((1 : Int32) <<< (v2 &&& 31))).toNatClampNeg ((mb 1 (v1 ||| ((1 : Int32) <<< (v2 &&& 31))).toNatClampNeg) + (mb 1 v1.toNatClampNeg))) = mb_87 at hP
                replace h := lt_g h emb_87
                refine lv_iinc (v := (v2 + (1 : Int32))) (lv' := [(2, .int (v2 + (1 : Int32))), (0, .ref (xB X 0)), (1, .int v1)]) hx hb dX9_findAhead_88 hl (k := 2) rfl rfl (by decide) rfl (fun ls hl => ?_)
                refine lv_goto (tgt := 41) hx hb dX9_findAhead_91 (by decide) ?_
                exact ih41 v1 (v2 + (1 : Int32)) mb_87 _ _ ls (lv_sub hl [1, 2, 0] rfl) hP hS h
      refine lv_iload_n hx hb dX9_findAhead_32 rfl (lv_at hl 1 rfl) ?_
      refine lv_sipush (v := 128) hx hb dX9_findAhead_33 (by decide) ?_
      refine lv_icmp_ge (tgt := 100) hx hb dX9_findAhead_36 (by decide) (fun c36 => ?_) (fun c36 => ?_)
      · replace h := if_t c36 h
        cases h
        exact W.vret hx hb hr (fun t ht _ => ⟨rfl, by rw [ht]; exact hP, hS.F ht⟩) hS.2.2 dX9_findAhead_100
      · replace h := if_f c36 h
        refine lv_iconst (v := 0) hx hb dX9_findAhead_39 (by decide) ?_
        refine lv_istore_n (lv' := [(2, .int (0 : Int32)), (0, .ref (xB X 0)), (1, .int v1)]) hx hb dX9_findAhead_40 rfl hl (by decide) rfl (fun ls hl => ?_)
        exact hL41 500 v1 (0 : Int32) mb _ _ ls (lv_sub hl [1, 2, 0] rfl) hP hS h
  have hL2 : ∀ (n2 : Nat) (v1 : Int32) (mb : Nat → Nat → Int64) (H : Heap) (locs : List Loc) (ls : Array Slot), lv_has ls 3 [(0, .ref (xB X 0)), (1, .int v1)] → va_P X.1 vwCl (cM X mi ml ma mb) H → va_S (mA X) s.heap H locs → X9_findAhead_2 mi ma n2 v1 mb = some o_mb → W p l e (headSpec (Cond.code yX9_findAhead cX9_findAhead 3 none :: gT) { frames := 2, cells := 0, slots := 0, locals := 43 }).room s m [.ref (xB X 0)].toArray below meth c H locs 0 0 (MQ below (wQ none (fun H => va_P X.1 vwCl (cM X mi ml ma o_mb) H) (mA X)) [.ref (xB X 0)].toArray s 0 0 (mA X)) (F0 m 2 ls []) := by
    intro n2
    induction n2 with
    | zero =>
      intro v1 mb H locs ls hl hP hS h
      rw [X9_findAhead_2] at h
      cases h
    | succ n2 ih2 =>
      intro v1 mb H locs ls hl hP hS h
      rw [X9_findAhead_2] at h
      refine lv_iload_n hx hb dX9_findAhead_2 rfl (lv_at hl 1 rfl) ?_
      refine lv_sipush (v := 128) hx hb dX9_findAhead_3 (by decide) ?_
      refine lv_icmp_ge (tgt := 30) hx hb dX9_findAhead_6 (by decide) (fun c6 => ?_) (fun c6 => ?_)
      · replace h := if_t c6 h
        refine lv_iconst (v := 0) hx hb dX9_findAhead_30 (by decide) ?_
        refine lv_istore_n (lv' := [(1, .int (0 : Int32)), (0, .ref (xB X 0))]) hx hb dX9_findAhead_31 rfl hl (by decide) rfl (fun ls hl => ?_)
        exact hL32 500 (0 : Int32) mb _ _ ls (lv_sub hl [1, 0] rfl) hP hS h
      · replace h := if_f c6 h
        refine lv_aload_n hx hb dX9_findAhead_9 rfl (lv_at hl 0 rfl) ?_
        refine rg_M_aheadSet hx hb hT hown hK hP w_818 dX9_findAhead_10 ?_
        refine lv_iload_n hx hb dX9_findAhead_13 rfl (lv_at hl 1 rfl) ?_
        refine lv_iload_n hx hb dX9_findAhead_14 rfl (lv_at hl 1 rfl) ?_
        refine lv_if_ne (tgt := 22) hx hb dX9_findAhead_15 (by decide) (fun c15 => ?_) (fun c15 => ?_)
        · replace h := if_f c15 h
          refine lv_lconst (v := 0) hx hb dX9_findAhead_22 (by decide) ?_
          obtain ⟨hi23, h⟩ := gd_e h
          refine rs_b1 hx hb hK hP hN hS (ib_in hi23) dX9_findAhead_23 (fun H locs hP hS => ?_)
          generalize emb_23 : va_up mb 1 (vp_updL (mb 1) v1.toNatClampNeg (0 : Int64)) = mb_23 at hP
          replace h := lt_g h emb_23
          refine lv_iinc (v := (v1 + (1 : Int32))) (lv' := [(1, .int (v1 + (1 : Int32))), (0, .ref (xB X 0))]) hx hb dX9_findAhead_24 hl (k := 1) rfl rfl (by decide) rfl (fun ls hl => ?_)
          refine lv_goto (tgt := 2) hx hb dX9_findAhead_27 (by decide) ?_
          exact ih2 (v1 + (1 : Int32)) mb_23 _ _ ls (lv_sub hl [1, 0] rfl) hP hS h
        · replace h := if_t c15 h
          refine lv_lconst (v := 1) hx hb dX9_findAhead_18 (by decide) ?_
          refine lv_goto (tgt := 23) hx hb dX9_findAhead_19 (by decide) ?_
          obtain ⟨hi23, h⟩ := gd_e h
          refine rs_b1 hx hb hK hP hN hS (ib_in hi23) dX9_findAhead_23 (fun H locs hP hS => ?_)
          generalize emb_23 : va_up mb 1 (vp_updL (mb 1) v1.toNatClampNeg (1 : Int64)) = mb_23 at hP
          replace h := lt_g h emb_23
          refine lv_iinc (v := (v1 + (1 : Int32))) (lv' := [(1, .int (v1 + (1 : Int32))), (0, .ref (xB X 0))]) hx hb dX9_findAhead_24 hl (k := 1) rfl rfl (by decide) rfl (fun ls hl => ?_)
          refine lv_goto (tgt := 2) hx hb dX9_findAhead_27 (by decide) ?_
          exact ih2 (v1 + (1 : Int32)) mb_23 _ _ ls (lv_sub hl [1, 0] rfl) hP hS h
  rw [X9_findAhead] at h
  refine lv_iconst (v := 0) hx hb dX9_findAhead_0 (by decide) ?_
  refine lv_istore_n (lv' := [(1, .int (0 : Int32)), (0, .ref (xB X 0))]) hx hb dX9_findAhead_1 rfl hl (by decide) rfl (fun ls hl => ?_)
  exact hL2 500 (0 : Int32) mb _ _ ls (lv_sub hl [1, 0] rfl) hP hS h
set_option maxRecDepth 100000 in
set_option maxHeartbeats 4000000 in
theorem c_X9_tellOdds (l : Launch) (X : gX) (mi : Nat → Int32) (ml : Nat → Int64) (ma : Nat → Nat → Int32) (mb : Nat → Nat → Int64) (a1 : Int64) (a3 : Int64) {o_ml : Nat → Int64} (h : X9_tellOdds a1 a3 ml = some o_ml) : Met l yX9_tellOdds (Cond.code yX9_tellOdds cX9_tellOdds 11 none :: gT) { frames := 0, cells := 0, slots := 0, locals := 0 } (va_Pc [.ref (xB X 0), .long a1, .long a3] (mPre X mi ml ma mb)) (wQ none (fun H => va_P X.1 vwCl (cM X mi o_ml ma mb) H) (mA X)) 0 0 (mA X) := by
  refine Met.ofW (cc := cX9_tellOdds) (maxL := 11) (ret := none) (by decide) rfl ?_
  intro p e s m args below meth c s₁ B hml hv
  obtain ⟨rfl, hP, hK, hN⟩ := hv
  have hx := B.exec
  have hb := B.bytes
  have hr := B.returns
  have hts := atoms_spec (ws := (Cond.code yX9_tellOdds cX9_tellOdds 11 none :: gT)) B.pre
  have hT : ∀ w ∈ gT, w.before _ s = true := fun w hw => hts w (List.mem_cons_of_mem _ hw)
  have hown : s.vm.findClass RX9 = some m.cls := findClass_of_methodNamed B.named
  have hlocks := B.notSynchronized
  have hS : va_S (mA X) s.heap s.heap [] := va_S.rf
  have hl := lv_entry ([.ref (xB X 0), .long a1, .long a3]) (n := 11) (Nat.le_of_ble_eq_true rfl)
  rw [lg_entry_eq]
  generalize (lg_sl ([.ref (xB X 0), .long a1, .long a3]) ++ List.replicate (11 - (lg_sl ([.ref (xB X 0), .long a1, .long a3])).length) Slot.unset).toArray = ls at hl ⊢
  have hl : lv_has ls 11 [(0, .ref (xB X 0)), (1, .long a1), (3, .long a3)] := hl
  have hL6 : ∀ (n6 : Nat) (v1 : Int64) (v3 : Int64) (v5 : Int64) (v7 : Int64) (ml : Nat → Int64) (H : Heap) (locs : List Loc) (ls : Array Slot), lv_has ls 11 [(0, .ref (xB X 0)), (1, .long v1), (3, .long v3), (5, .long v5), (7, .long v7)] → va_P X.1 vwCl (cM X mi ml ma mb) H → va_S (mA X) s.heap H locs → X9_tellOdds_6 n6 v1 v3 v5 v7 ml = some o_ml → W p l e (headSpec (Cond.code yX9_tellOdds cX9_tellOdds 11 none :: gT) { frames := 0, cells := 0, slots := 0, locals := 0 }).room s m [.ref (xB X 0), .long a1, .long a3].toArray below meth c H locs 0 0 (MQ below (wQ none (fun H => va_P X.1 vwCl (cM X mi o_ml ma mb) H) (mA X)) [.ref (xB X 0), .long a1, .long a3].toArray s 0 0 (mA X)) (F0 m 6 ls []) := by
    intro n6
    induction n6 with
    | zero =>
      intro v1 v3 v5 v7 ml H locs ls hl hP hS h
      rw [X9_tellOdds_6] at h
      cases h
    | succ n6 ih6 =>
      intro v1 v3 v5 v7 ml H locs ls hl hP hS h
      rw [X9_tellOdds_6] at h
      refine lv_lload hx hb dX9_tellOdds_6 (lv_at hl 4 rfl) ?_
      refine lv_lconst (v := 0) hx hb dX9_tellOdds_8 (by decide) ?_
      refine W.lcmp hx hb dX9_tellOdds_9 ?_
      refine lv_if_eq (tgt := 31) hx hb dX9_tellOdds_10 (by decide) (fun c10 => ?_) (fun c10 => ?_)
      · replace h := if_t c10 h
        refine lv_aload_n hx hb dX9_tellOdds_31 rfl (lv_at hl 0 rfl) ?_
        refine lv_lload_n hx hb dX9_tellOdds_32 rfl (lv_at hl 1 rfl) ?_
        refine lv_lload hx hb dX9_tellOdds_33 (lv_at hl 3 rfl) ?_
        obtain ⟨hne35, h⟩ := gn_e h
        refine lv_ldiv hx hb dX9_tellOdds_35 hne35 ?_
        refine rp_M_upper hx hb hT hown hK hP hN hS w_792 dX9_tellOdds_36 (fun H locs hP hS => ?_)
        generalize eml_36 : va_up ml 0 (v1 / v5) = ml_36 at hP
        replace h := lt_g h eml_36
        refine lv_aload_n hx hb dX9_tellOdds_39 rfl (lv_at hl 0 rfl) ?_
        refine lv_lload_n hx hb dX9_tellOdds_40 rfl (lv_at hl 2 rfl) ?_
        refine lv_lload hx hb dX9_tellOdds_41 (lv_at hl 3 rfl) ?_
        obtain ⟨hne43, h⟩ := gn_e h
        refine lv_ldiv hx hb dX9_tellOdds_43 hne43 ?_
        refine rp_M_lower hx hb hT hown hK hP hN hS w_793 dX9_tellOdds_44 (fun H locs hP hS => ?_)
        generalize eml_44 : va_up ml_36 1 (v3 / v5) = ml_44 at hP
        replace h := lt_g h eml_44
        cases h
        exact W.vret hx hb hr (fun t ht _ => ⟨rfl, by rw [ht]; exact hP, hS.F ht⟩) hS.2.2 dX9_tellOdds_47
      · replace h := if_f c10 h
        refine lv_lload hx hb dX9_tellOdds_13 (lv_at hl 3 rfl) ?_
        refine lv_lload hx hb dX9_tellOdds_15 (lv_at hl 4 rfl) ?_
        obtain ⟨hne17, h⟩ := gn_e h
        refine lv_lrem hx hb dX9_tellOdds_17 hne17 ?_
        refine lv_lstore (lv' := [(9, .long (v5 - v5 / v7 * v7)), (0, .ref (xB X 0)), (1, .long v1), (3, .long v3), (5, .long v5), (7, .long v7)]) hx hb dX9_tellOdds_18 hl (by decide) rfl (fun ls hl => ?_)
        refine lv_lload hx hb dX9_tellOdds_20 (lv_at hl 5 rfl) ?_
        refine lv_lstore (lv' := [(5, .long v7), (9, .long (v5 - v5 / v7 * v7)), (0, .ref (xB X 0)), (1, .long v1), (3, .long v3), (7, .long v7)]) hx hb dX9_tellOdds_22 hl (by decide) rfl (fun ls hl => ?_)
        refine lv_lload hx hb dX9_tellOdds_24 (lv_at hl 1 rfl) ?_
        refine lv_lstore (lv' := [(7, .long (v5 - v5 / v7 * v7)), (5, .long v7), (9, .long (v5 - v5 / v7 * v7)), (0, .ref (xB X 0)), (1, .long v1), (3, .long v3)]) hx hb dX9_tellOdds_26 hl (by decide) rfl (fun ls hl => ?_)
        refine lv_goto (tgt := 6) hx hb dX9_tellOdds_28 (by decide) ?_
        exact ih6 v1 v3 v7 (v5 - v5 / v7 * v7) ml _ _ ls (lv_sub hl [3, 4, 5, 1, 0] rfl) hP hS h
  rw [X9_tellOdds] at h
  refine lv_lload_n hx hb dX9_tellOdds_0 rfl (lv_at hl 1 rfl) ?_
  refine lv_lstore (lv' := [(5, .long a1), (0, .ref (xB X 0)), (1, .long a1), (3, .long a3)]) hx hb dX9_tellOdds_1 hl (by decide) rfl (fun ls hl => ?_)
  refine lv_lload_n hx hb dX9_tellOdds_3 rfl (lv_at hl 3 rfl) ?_
  refine lv_lstore (lv' := [(7, .long a3), (5, .long a1), (0, .ref (xB X 0)), (1, .long a1), (3, .long a3)]) hx hb dX9_tellOdds_4 hl (by decide) rfl (fun ls hl => ?_)
  exact hL6 500 a1 a3 a1 a3 ml _ _ ls (lv_sub hl [2, 3, 4, 1, 0] rfl) hP hS h
set_option maxRecDepth 100000 in
set_option maxHeartbeats 4000000 in
theorem c_X9_orders (l : Launch) (X : gX) (mi : Nat → Int32) (ml : Nat → Int64) (ma : Nat → Nat → Int32) (mb : Nat → Nat → Int64) {o0 : Int32} {o_ml : Nat → Int64} {o_mb : Nat → Nat → Int64} (h : X9_orders mi ma ml mb = some (o0, o_ml, o_mb)) : Met l yX9_orders (Cond.code yX9_orders cX9_orders 1 (some .int) :: gT) { frames := 3, cells := 0, slots := 0, locals := 66 } (va_Pc [.ref (xB X 0)] (mPre X mi ml ma mb)) (wQ (some (.int o0)) (fun H => va_P X.1 vwCl (cM X mi o_ml ma o_mb) H) (mA X)) 0 0 (mA X) := by
  refine Met.ofW (cc := cX9_orders) (maxL := 1) (ret := (some .int)) (by decide) rfl ?_
  intro p e s m args below meth c s₁ B hml hv
  obtain ⟨rfl, hP, hK, hN⟩ := hv
  have hx := B.exec
  have hb := B.bytes
  have hr := B.returns
  have hts := atoms_spec (ws := (Cond.code yX9_orders cX9_orders 1 (some .int) :: gT)) B.pre
  have hT : ∀ w ∈ gT, w.before _ s = true := fun w hw => hts w (List.mem_cons_of_mem _ hw)
  have hown : s.vm.findClass RX9 = some m.cls := findClass_of_methodNamed B.named
  have hlocks := B.notSynchronized
  have hS : va_S (mA X) s.heap s.heap [] := va_S.rf
  have hl := lv_entry ([.ref (xB X 0)]) (n := 1) (Nat.le_of_ble_eq_true rfl)
  rw [lg_entry_eq]
  generalize (lg_sl ([.ref (xB X 0)]) ++ List.replicate (1 - (lg_sl ([.ref (xB X 0)])).length) Slot.unset).toArray = ls at hl ⊢
  have hl : lv_has ls 1 [(0, .ref (xB X 0))] := hl
  rw [X9_orders] at h
  refine lv_aload_n hx hb dX9_orders_0 rfl (lv_at hl 0 rfl) ?_
  obtain ⟨mb_1, hc1, h⟩ := Option.bind_eq_some_iff.mp h
  refine wcV (As := []) (rest := []) ⟨hx, hb, hml, hown, hts⟩ (c_X9_findBehind l X mi ml ma mb hc1) ⟨w_1192, w_1194, w_42, w_58, w_1195⟩ hd_X9_findBehind rfl rfl ⟨(Nat.le_of_ble_eq_true rfl), (Nat.le_of_ble_eq_true rfl)⟩ ⟨Nat.zero_le _, Nat.zero_le _⟩ mPre_blind (va_recv hK hP (ci := 5) rfl cM_o) (mPre_call hP hK hN) hS (fun _ h => h) rfl rfl hl.1 (Nat.le_of_ble_eq_true rfl) dX9_orders_1 (fun H locs hP _ hS => ?_)
  have hP : va_P X.1 vwCl (cM X mi ml ma mb_1) H := hP
  refine W.eq (g2 := F0 m 4 ls []) rfl ?_
  refine lv_aload_n hx hb dX9_orders_4 rfl (lv_at hl 0 rfl) ?_
  refine lv_aload_n hx hb dX9_orders_5 rfl (lv_at hl 0 rfl) ?_
  refine rg_M_behindSet hx hb hT hown hK hP w_817 dX9_orders_6 ?_
  refine lv_iconst (v := 0) hx hb dX9_orders_9 (by decide) ?_
  obtain ⟨hi10, h⟩ := gd_e h
  refine ra_b0 hx hb hK hP (ib_in hi10) dX9_orders_10 ?_
  refine rp_M_upper hx hb hT hown hK hP hN hS w_792 dX9_orders_11 (fun H locs hP hS => ?_)
  generalize eml_11 : va_up ml 0 (mb_1 0 (0 : Int32).toNatClampNeg) = ml_11 at hP
  replace h := lt_g h eml_11
  refine lv_aload_n hx hb dX9_orders_14 rfl (lv_at hl 0 rfl) ?_
  refine lv_lconst (v := 1) hx hb dX9_orders_15 (by decide) ?_
  refine rp_M_lower hx hb hT hown hK hP hN hS w_793 dX9_orders_16 (fun H locs hP hS => ?_)
  generalize eml_16 : va_up ml_11 1 (1 : Int64) = ml_16 at hP
  replace h := lt_g h eml_16
  refine lv_iconst (v := 1) hx hb dX9_orders_19 (by decide) ?_
  cases h
  exact W.iret hx hb hr (fun t ht _ => ⟨rfl, by rw [ht]; exact hP, hS.F ht⟩) hS.2.2 dX9_orders_20
set_option maxRecDepth 100000 in
set_option maxHeartbeats 4000000 in
theorem c_X9_came (l : Launch) (X : gX) (mi : Nat → Int32) (ml : Nat → Int64) (ma : Nat → Nat → Int32) (mb : Nat → Nat → Int64) (a1 : Int32) (a2 : Int32) {o0 : Int32} {o_mi : Nat → Int32} {o_ml : Nat → Int64} {o_ma : Nat → Nat → Int32} {o_mb : Nat → Nat → Int64} (h : X9_came a1 a2 mi ml ma mb = some (o0, o_mi, o_ml, o_ma, o_mb)) : Met l yX9_came (Cond.code yX9_came cX9_came 7 (some .int) :: gT) { frames := 3, cells := 0, slots := 0, locals := 66 } (va_Pc [.ref (xB X 0), .int a1, .int a2] (mPre X mi ml ma mb)) (wQ (some (.int o0)) (fun H => va_P X.1 vwCl (cM X o_mi o_ml o_ma o_mb) H) (mA X)) 0 0 (mA X) := by
  refine Met.ofW (cc := cX9_came) (maxL := 7) (ret := (some .int)) (by decide) rfl ?_
  intro p e s m args below meth c s₁ B hml hv
  obtain ⟨rfl, hP, hK, hN⟩ := hv
  have hx := B.exec
  have hb := B.bytes
  have hr := B.returns
  have hts := atoms_spec (ws := (Cond.code yX9_came cX9_came 7 (some .int) :: gT)) B.pre
  have hT : ∀ w ∈ gT, w.before _ s = true := fun w hw => hts w (List.mem_cons_of_mem _ hw)
  have hown : s.vm.findClass RX9 = some m.cls := findClass_of_methodNamed B.named
  have hlocks := B.notSynchronized
  have hS : va_S (mA X) s.heap s.heap [] := va_S.rf
  have hl := lv_entry ([.ref (xB X 0), .int a1, .int a2]) (n := 7) (Nat.le_of_ble_eq_true rfl)
  rw [lg_entry_eq]
  generalize (lg_sl ([.ref (xB X 0), .int a1, .int a2]) ++ List.replicate (7 - (lg_sl ([.ref (xB X 0), .int a1, .int a2])).length) Slot.unset).toArray = ls at hl ⊢
  have hl : lv_has ls 7 [(0, .ref (xB X 0)), (1, .int a1), (2, .int a2)] := hl
  have hL40 : ∀ (n40 : Nat) (v1 : Int32) (v2 : Int32) (v3 : Int64) (v5 : Int32) (mi : Nat → Int32) (ml : Nat → Int64) (ma : Nat → Nat → Int32) (mb : Nat → Nat → Int64) (H : Heap) (locs : List Loc) (ls : Array Slot), lv_has ls 7 [(0, .ref (xB X 0)), (1, .int v1), (2, .int v2), (3, .long v3), (5, .int v5)] → va_P X.1 vwCl (cM X mi ml ma mb) H → va_S (mA X) s.heap H locs → X9_came_40 n40 v1 v2 v3 v5 mi ml ma mb = some (o0, o_mi, o_ml, o_ma, o_mb) → W p l e (headSpec (Cond.code yX9_came cX9_came 7 (some .int) :: gT) { frames := 3, cells := 0, slots := 0, locals := 66 }).room s m [.ref (xB X 0), .int a1, .int a2].toArray below meth c H locs 0 0 (MQ below (wQ (some (.int o0)) (fun H => va_P X.1 vwCl (cM X o_mi o_ml o_ma o_mb) H) (mA X)) [.ref (xB X 0), .int a1, .int a2].toArray s 0 0 (mA X)) (F0 m 40 ls []) := by
    intro n40
    induction n40 with
    | zero =>
      intro v1 v2 v3 v5 mi ml ma mb H locs ls hl hP hS h
      rw [X9_came_40] at h
      cases h
    | succ n40 ih40 =>
      intro v1 v2 v3 v5 mi ml ma mb H locs ls hl hP hS h
      rw [X9_came_40] at h
      have hL84 : ∀ (v1 : Int32) (v2 : Int32) (v3 : Int64) (v5 : Int32) (t0 : Int32) (mi : Nat → Int32) (ml : Nat → Int64) (ma : Nat → Nat → Int32) (mb : Nat → Nat → Int64) (H : Heap) (locs : List Loc) (ls : Array Slot), lv_has ls 7 [(0, .ref (xB X 0)), (1, .int v1), (2, .int v2), (3, .long v3), (5, .int v5)] → va_P X.1 vwCl (cM X mi ml ma mb) H → va_S (mA X) s.heap H locs → X9_came_84 (X9_came_40 n40) v1 v2 v3 v5 t0 mi ml ma mb = some (o0, o_mi, o_ml, o_ma, o_mb) → W p l e (headSpec (Cond.code yX9_came cX9_came 7 (some .int) :: gT) { frames := 3, cells := 0, slots := 0, locals := 66 }).room s m [.ref (xB X 0), .int a1, .int a2].toArray below meth c H locs 0 0 (MQ below (wQ (some (.int o0)) (fun H => va_P X.1 vwCl (cM X o_mi o_ml o_ma o_mb) H) (mA X)) [.ref (xB X 0), .int a1, .int a2].toArray s 0 0 (mA X)) (F0 m 84 ls [.int t0]) := by
        intro v1 v2 v3 v5 t0 mi ml ma mb H locs ls hl hP hS h
        rw [X9_came_84] at h
        refine lv_istore (lv' := [(6, .int t0), (0, .ref (xB X 0)), (1, .int v1), (2, .int v2), (3, .long v3), (5, .int v5)]) hx hb dX9_came_84 hl (by decide) rfl (fun ls hl => ?_)
        refine lv_lload_n hx hb dX9_came_86 rfl (lv_at hl 4 rfl) ?_
        refine lv_iload hx hb dX9_came_87 (lv_at hl 0 rfl) ?_
        refine lv_if_eq (tgt := 114) hx hb dX9_came_89 (by decide) (fun c89 => ?_) (fun c89 => ?_)
        · replace h := if_t c89 h
          refine lv_lconst (v := 0) hx hb dX9_came_114 (by decide) ?_
          refine lv_ladd hx hb dX9_came_115 ?_
          refine lv_lstore_n (lv' := [(3, .long (v3 + (0 : Int64))), (6, .int t0), (0, .ref (xB X 0)), (1, .int v1), (2, .int v2), (5, .int v5)]) hx hb dX9_came_116 rfl hl (by decide) rfl (fun ls hl => ?_)
          refine lv_iinc (v := (v5 + (1 : Int32))) (lv' := [(5, .int (v5 + (1 : Int32))), (3, .long (v3 + (0 : Int64))), (6, .int t0), (0, .ref (xB X 0)), (1, .int v1), (2, .int v2)]) hx hb dX9_came_117 hl (k := 5) rfl rfl (by decide) rfl (fun ls hl => ?_)
          refine lv_goto (tgt := 40) hx hb dX9_came_120 (by decide) ?_
          exact ih40 v1 v2 (v3 + (0 : Int64)) (v5 + (1 : Int32)) mi ml ma mb _ _ ls (lv_sub hl [3, 4, 5, 1, 0] rfl) hP hS h
        · replace h := if_f c89 h
          refine lv_aload_n hx hb dX9_came_92 rfl (lv_at hl 1 rfl) ?_
          refine rg_M_aheadSet hx hb hT hown hK hP w_818 dX9_came_93 ?_
          refine lv_iload hx hb dX9_came_96 (lv_at hl 5 rfl) ?_
          obtain ⟨hi98, h⟩ := gd_e h
          refine ra_b1 hx hb hK hP (ib_in hi98) dX9_came_98 ?_
          refine lv_aload_n hx hb dX9_came_99 rfl (lv_at hl 1 rfl) ?_
          refine rg_M_behindSet hx hb hT hown hK hP w_817 dX9_came_100 ?_
          refine lv_iload hx hb dX9_came_103 (lv_at hl 5 rfl) ?_
          refine lv_iconst (v := 1) hx hb dX9_came_105 (by decide) ?_
          refine lv_iload_n hx hb dX9_came_106 rfl (lv_at hl 2 rfl) ?_
          refine lv_ishl hx hb dX9_came_107 ?_
          refine lv_ior hx hb dX9_came_108 ?_
          obtain ⟨hi109, h⟩ := gd_e h
          refine ra_b0 hx hb hK hP (ib_in hi109) dX9_came_109 ?_
          refine lv_lmul hx hb dX9_came_110 ?_
          refine lv_goto (tgt := 115) hx hb dX9_came_111 (by decide) ?_
          refine lv_ladd hx hb dX9_came_115 ?_
          refine lv_topl (fun v3_116 ev3_116 => ?_)
          replace h := lt_e h ev3_116
          refine lv_lstore_n (lv' := [(3, .long v3_116), (6, .int t0), (0, .ref (xB X 0)), (1, .int v1), (2, .int v2), (5, .int v5)]) hx hb dX9_came_116 rfl hl (by decide) rfl (fun ls hl => ?_)
          refine lv_iinc (v := (v5 + (1 : Int32))) (lv' := [(5, .int (v5 + (1 : Int32))), (3, .long v3_116), (6, .int t0), (0, .ref (xB X 0)), (1, .int v1), (2, .int v2)]) hx hb dX9_came_117 hl (k := 5) rfl rfl (by decide) rfl (fun ls hl => ?_)
          refine lv_goto (tgt := 40) hx hb dX9_came_120 (by decide) ?_
          exact ih40 v1 v2 v3_116 (v5 + (1 : Int32)) mi ml ma mb _ _ ls (lv_sub hl [3, 4, 5, 1, 0] rfl) hP hS h
      refine lv_iload hx hb dX9_came_40 (lv_at hl 4 rfl) ?_
      refine lv_sipush (v := 128) hx hb dX9_came_42 (by decide) ?_
      refine lv_icmp_ge (tgt := 123) hx hb dX9_came_45 (by decide) (fun c45 => ?_) (fun c45 => ?_)
      · replace h := if_t c45 h
        refine lv_aload_n hx hb dX9_came_123 rfl (lv_at hl 0 rfl) ?_
        refine lv_lload_n hx hb dX9_came_124 rfl (lv_at hl 3 rfl) ?_
        refine lv_aload_n hx hb dX9_came_125 rfl (lv_at hl 0 rfl) ?_
        refine rg_M_behindSet hx hb hT hown hK hP w_817 dX9_came_126 ?_
        refine lv_iconst (v := 0) hx hb dX9_came_129 (by decide) ?_
        obtain ⟨hi130, h⟩ := gd_e h
        refine ra_b0 hx hb hK hP (ib_in hi130) dX9_came_130 ?_
        obtain ⟨ml_131, hc131, h⟩ := Option.bind_eq_some_iff.mp h
        refine wcV (As := [.long v3, .long (mb 0 (0 : Int32).toNatClampNeg)]) (rest := []) ⟨hx, hb, hml, hown, hts⟩ (c_X9_tellOdds l X mi ml ma mb v3 (mb 0 (0 : Int32).toNatClampNeg) hc131) ⟨w_1208, w_1210, w_45, w_58, w_1211⟩ hd_X9_tellOdds rfl rfl ⟨(Nat.le_of_ble_eq_true rfl), (Nat.le_of_ble_eq_true rfl)⟩ ⟨Nat.zero_le _, Nat.zero_le _⟩ mPre_blind (va_recv hK hP (ci := 5) rfl cM_o) (mPre_call hP hK hN) hS (fun _ h => h) rfl rfl hl.1 (Nat.le_of_ble_eq_true rfl) dX9_came_131 (fun H locs hP _ hS => ?_)
        have hP : va_P X.1 vwCl (cM X mi ml_131 ma mb) H := hP
        refine W.eq (g2 := F0 m 134 ls []) rfl ?_
        refine lv_iconst (v := 1) hx hb dX9_came_134 (by decide) ?_
        cases h
        exact W.iret hx hb hr (fun t ht _ => ⟨rfl, by rw [ht]; exact hP, hS.F ht⟩) hS.2.2 dX9_came_135
      · replace h := if_f c45 h
        refine lv_iload hx hb dX9_came_48 (lv_at hl 4 rfl) ?_
        obtain ⟨r50, hc50, h⟩ := Option.bind_eq_some_iff.mp h
        refine rcS (As := [.int v5]) (rest := []) ⟨hx, hb, hml, hown, hts⟩ (c_X9_bits l v5 hc50) ⟨w_1030, w_1031, w_58, w_1032⟩ hd_X9_bits rfl rfl ⟨(Nat.le_of_ble_eq_true rfl), (Nat.le_of_ble_eq_true rfl)⟩ ⟨Nat.zero_le _, Nat.zero_le _⟩ (fun _ _ _ _ h => h) (fun _ _ _ => trivial) rfl rfl hl.1 (Nat.le_of_ble_eq_true rfl) dX9_came_50 ?_
        refine lv_iload_n hx hb dX9_came_53 rfl (lv_at hl 2 rfl) ?_
        refine lv_icmp_ne (tgt := 83) hx hb dX9_came_54 (by decide) (fun c54 => ?_) (fun c54 => ?_)
        · replace h := if_f c54 h
          refine lv_iconst (v := 0) hx hb dX9_came_83 (by decide) ?_
          exact hL84 v1 v2 v3 v5 (0 : Int32) mi ml ma mb _ _ ls (lv_sub hl [0, 1, 2, 3, 4] rfl) hP hS h
        · replace h := if_t c54 h
          refine lv_aload_n hx hb dX9_came_57 rfl (lv_at hl 0 rfl) ?_
          refine rg_M_aheadSet hx hb hT hown hK hP w_818 dX9_came_58 ?_
          refine lv_iload hx hb dX9_came_61 (lv_at hl 4 rfl) ?_
          obtain ⟨hi63, h⟩ := gd_e h
          refine ra_b1 hx hb hK hP (ib_in hi63) dX9_came_63 ?_
          refine lv_lconst (v := 0) hx hb dX9_came_64 (by decide) ?_
          refine W.lcmp hx hb dX9_came_65 ?_
          refine lv_if_le (tgt := 83) hx hb dX9_came_66 (by decide) (fun c66 => ?_) (fun c66 => ?_)
          · replace h := if_t c66 h
            refine lv_iconst (v := 0) hx hb dX9_came_83 (by decide) ?_
            exact hL84 v1 v2 v3 v5 (0 : Int32) mi ml ma mb _ _ ls (lv_sub hl [0, 1, 2, 3, 4] rfl) hP hS h
          · replace h := if_f c66 h
            refine lv_aload_n hx hb dX9_came_69 rfl (lv_at hl 0 rfl) ?_
            refine lv_iload_n hx hb dX9_came_70 rfl (lv_at hl 1 rfl) ?_
            refine lv_iload hx hb dX9_came_71 (lv_at hl 4 rfl) ?_
            obtain ⟨r73, hc73, h⟩ := Option.bind_eq_some_iff.mp h
            refine rcV (As := [.int v1, .int v5]) (rest := []) ⟨hx, hb, hml, hown, hts⟩ (c_X9_mayCome l X mi ml ma mb v1 v5 hc73) ⟨w_1196, w_1198, w_43, w_58, w_1199⟩ hd_X9_mayCome rfl rfl ⟨(Nat.le_of_ble_eq_true rfl), (Nat.le_of_ble_eq_true rfl)⟩ ⟨Nat.zero_le _, Nat.zero_le _⟩ mPre_blind (va_recv hK hP (ci := 5) rfl cM_o) (mPre_call hP hK hN) rfl rfl hl.1 (Nat.le_of_ble_eq_true rfl) dX9_came_73 ?_
            refine lv_if_eq (tgt := 83) hx hb dX9_came_76 (by decide) (fun c76 => ?_) (fun c76 => ?_)
            · replace h := if_t c76 h
              refine lv_iconst (v := 0) hx hb dX9_came_83 (by decide) ?_
              exact hL84 v1 v2 v3 v5 (0 : Int32) mi ml ma mb _ _ ls (lv_sub hl [0, 1, 2, 3, 4] rfl) hP hS h
            · replace h := if_f c76 h
              refine lv_iconst (v := 1) hx hb dX9_came_79 (by decide) ?_
              refine lv_goto (tgt := 84) hx hb dX9_came_80 (by decide) ?_
              exact hL84 v1 v2 v3 v5 (1 : Int32) mi ml ma mb _ _ ls (lv_sub hl [0, 1, 2, 3, 4] rfl) hP hS h
  rw [X9_came] at h
  refine lv_aload_n hx hb dX9_came_0 rfl (lv_at hl 0 rfl) ?_
  refine lv_iload_n hx hb dX9_came_1 rfl (lv_at hl 1 rfl) ?_
  obtain ⟨r2, hc2, h⟩ := Option.bind_eq_some_iff.mp h
  refine rcV (As := [.int a1]) (rest := []) ⟨hx, hb, hml, hown, hts⟩ (c_X9_isOne l X mi ml ma mb a1 hc2) ⟨w_986, w_988, w_18, w_58, w_989⟩ hd_X9_isOne rfl rfl ⟨(Nat.le_of_ble_eq_true rfl), (Nat.le_of_ble_eq_true rfl)⟩ ⟨Nat.zero_le _, Nat.zero_le _⟩ mPre_blind (va_recv hK hP (ci := 5) rfl cM_o) (mPre_call hP hK hN) rfl rfl hl.1 (Nat.le_of_ble_eq_true rfl) dX9_came_2 ?_
  refine lv_if_eq (tgt := 12) hx hb dX9_came_5 (by decide) (fun c5 => ?_) (fun c5 => ?_)
  · replace h := if_t c5 h
    refine lv_iconst (v := -1) hx hb dX9_came_12 (by decide) ?_
    cases h
    exact W.iret hx hb hr (fun t ht _ => ⟨rfl, by rw [ht]; exact hP, hS.F ht⟩) hS.2.2 dX9_came_13
  · replace h := if_f c5 h
    refine lv_iload_n hx hb dX9_came_8 rfl (lv_at hl 2 rfl) ?_
    refine lv_if_ge (tgt := 14) hx hb dX9_came_9 (by decide) (fun c9 => ?_) (fun c9 => ?_)
    · replace h := if_t c9 h
      refine lv_aload_n hx hb dX9_came_14 rfl (lv_at hl 0 rfl) ?_
      obtain ⟨r15, hc15, h⟩ := Option.bind_eq_some_iff.mp h
      refine rcV (As := []) (rest := []) ⟨hx, hb, hml, hown, hts⟩ (c_X9_stuckSet l X mi ml ma mb hc15) ⟨w_1022, w_1024, w_26, w_58, w_1025⟩ hd_X9_stuckSet rfl rfl ⟨(Nat.le_of_ble_eq_true rfl), (Nat.le_of_ble_eq_true rfl)⟩ ⟨Nat.zero_le _, Nat.zero_le _⟩ mPre_blind (va_recv hK hP (ci := 5) rfl cM_o) (mPre_call hP hK hN) rfl rfl hl.1 (Nat.le_of_ble_eq_true rfl) dX9_came_15 ?_
      refine lv_if_ne (tgt := 27) hx hb dX9_came_18 (by decide) (fun c18 => ?_) (fun c18 => ?_)
      · replace h := if_f c18 h
        refine lv_aload_n hx hb dX9_came_27 rfl (lv_at hl 0 rfl) ?_
        obtain ⟨mb_28, hc28, h⟩ := Option.bind_eq_some_iff.mp h
        refine wcV (As := []) (rest := []) ⟨hx, hb, hml, hown, hts⟩ (c_X9_findBehind l X mi ml ma mb hc28) ⟨w_1192, w_1194, w_42, w_58, w_1195⟩ hd_X9_findBehind rfl rfl ⟨(Nat.le_of_ble_eq_true rfl), (Nat.le_of_ble_eq_true rfl)⟩ ⟨Nat.zero_le _, Nat.zero_le _⟩ mPre_blind (va_recv hK hP (ci := 5) rfl cM_o) (mPre_call hP hK hN) hS (fun _ h => h) rfl rfl hl.1 (Nat.le_of_ble_eq_true rfl) dX9_came_28 (fun H locs hP _ hS => ?_)
        have hP : va_P X.1 vwCl (cM X mi ml ma mb_28) H := hP
        refine W.eq (g2 := F0 m 31 ls []) rfl ?_
        refine lv_aload_n hx hb dX9_came_31 rfl (lv_at hl 0 rfl) ?_
        obtain ⟨mb_32, hc32, h⟩ := Option.bind_eq_some_iff.mp h
        refine wcV (As := []) (rest := []) ⟨hx, hb, hml, hown, hts⟩ (c_X9_findAhead l X mi ml ma mb_28 hc32) ⟨w_1204, w_1206, w_44, w_58, w_1207⟩ hd_X9_findAhead rfl rfl ⟨(Nat.le_of_ble_eq_true rfl), (Nat.le_of_ble_eq_true rfl)⟩ ⟨Nat.zero_le _, Nat.zero_le _⟩ mPre_blind (va_recv hK hP (ci := 5) rfl cM_o) (mPre_call hP hK hN) hS (fun _ h => h) rfl rfl hl.1 (Nat.le_of_ble_eq_true rfl) dX9_came_32 (fun H locs hP _ hS => ?_)
        have hP : va_P X.1 vwCl (cM X mi ml ma mb_32) H := hP
        refine W.eq (g2 := F0 m 35 ls []) rfl ?_
        refine lv_lconst (v := 0) hx hb dX9_came_35 (by decide) ?_
        refine lv_lstore_n (lv' := [(3, .long (0 : Int64)), (0, .ref (xB X 0)), (1, .int a1), (2, .int a2)]) hx hb dX9_came_36 rfl hl (by decide) rfl (fun ls hl => ?_)
        refine lv_iconst (v := 0) hx hb dX9_came_37 (by decide) ?_
        refine lv_istore (lv' := [(5, .int (0 : Int32)), (3, .long (0 : Int64)), (0, .ref (xB X 0)), (1, .int a1), (2, .int a2)]) hx hb dX9_came_38 hl (by decide) rfl (fun ls hl => ?_)
        exact hL40 500 a1 a2 (0 : Int64) (0 : Int32) mi ml ma mb_32 _ _ ls (lv_sub hl [2, 3, 4, 1, 0] rfl) hP hS h
      · replace h := if_t c18 h
        refine lv_aload_n hx hb dX9_came_21 rfl (lv_at hl 0 rfl) ?_
        refine lv_iconst (v := 4) hx hb dX9_came_22 (by decide) ?_
        obtain ⟨r23, mi_23, ma_23, hc23, h⟩ := bd3_e h
        refine wcV (As := [.int (4 : Int32)]) (rest := []) ⟨hx, hb, hml, hown, hts⟩ (c_X9_finds l X mi ml ma mb (4 : Int32) hc23) ⟨w_915, w_917, w_12, w_58, w_918⟩ hd_X9_finds rfl rfl ⟨(Nat.le_of_ble_eq_true rfl), (Nat.le_of_ble_eq_true rfl)⟩ ⟨Nat.zero_le _, Nat.zero_le _⟩ mPre_blind (va_recv hK hP (ci := 5) rfl cM_o) (mPre_call hP hK hN) hS (fun _ h => h) rfl rfl hl.1 (Nat.le_of_ble_eq_true rfl) dX9_came_23 (fun H locs hP _ hS => ?_)
        have hP : va_P X.1 vwCl (cM X mi_23 ml ma_23 mb) H := hP
        refine W.eq (g2 := F0 m 26 ls [.int r23]) rfl ?_
        cases h
        exact W.iret hx hb hr (fun t ht _ => ⟨rfl, by rw [ht]; exact hP, hS.F ht⟩) hS.2.2 dX9_came_26
    · replace h := if_f c9 h
      refine lv_iconst (v := -1) hx hb dX9_came_12 (by decide) ?_
      cases h
      exact W.iret hx hb hr (fun t ht _ => ⟨rfl, by rw [ht]; exact hP, hS.F ht⟩) hS.2.2 dX9_came_13
set_option maxRecDepth 100000 in
set_option maxHeartbeats 4000000 in
theorem c_X9_ahead (l : Launch) (X : gX) (mi : Nat → Int32) (ml : Nat → Int64) (ma : Nat → Nat → Int32) (mb : Nat → Nat → Int64) (a1 : Int32) (a2 : Int32) {o0 : Int32} {o_ml : Nat → Int64} {o_mb : Nat → Nat → Int64} (h : X9_ahead mi ma a1 a2 ml mb = some (o0, o_ml, o_mb)) : Met l yX9_ahead (Cond.code yX9_ahead cX9_ahead 7 (some .int) :: gT) { frames := 3, cells := 0, slots := 0, locals := 66 } (va_Pc [.ref (xB X 0), .int a1, .int a2] (mPre X mi ml ma mb)) (wQ (some (.int o0)) (fun H => va_P X.1 vwCl (cM X mi o_ml ma o_mb) H) (mA X)) 0 0 (mA X) := by
  refine Met.ofW (cc := cX9_ahead) (maxL := 7) (ret := (some .int)) (by decide) rfl ?_
  intro p e s m args below meth c s₁ B hml hv
  obtain ⟨rfl, hP, hK, hN⟩ := hv
  have hx := B.exec
  have hb := B.bytes
  have hr := B.returns
  have hts := atoms_spec (ws := (Cond.code yX9_ahead cX9_ahead 7 (some .int) :: gT)) B.pre
  have hT : ∀ w ∈ gT, w.before _ s = true := fun w hw => hts w (List.mem_cons_of_mem _ hw)
  have hown : s.vm.findClass RX9 = some m.cls := findClass_of_methodNamed B.named
  have hlocks := B.notSynchronized
  have hS : va_S (mA X) s.heap s.heap [] := va_S.rf
  have hl := lv_entry ([.ref (xB X 0), .int a1, .int a2]) (n := 7) (Nat.le_of_ble_eq_true rfl)
  rw [lg_entry_eq]
  generalize (lg_sl ([.ref (xB X 0), .int a1, .int a2]) ++ List.replicate (7 - (lg_sl ([.ref (xB X 0), .int a1, .int a2])).length) Slot.unset).toArray = ls at hl ⊢
  have hl : lv_has ls 7 [(0, .ref (xB X 0)), (1, .int a1), (2, .int a2)] := hl
  have hL52 : ∀ (n52 : Nat) (v1 : Int32) (v2 : Int32) (v3 : Int64) (v5 : Int32) (ml : Nat → Int64) (mb : Nat → Nat → Int64) (H : Heap) (locs : List Loc) (ls : Array Slot), lv_has ls 7 [(0, .ref (xB X 0)), (1, .int v1), (2, .int v2), (3, .long v3), (5, .int v5)] → va_P X.1 vwCl (cM X mi ml ma mb) H → va_S (mA X) s.heap H locs → X9_ahead_52 mi ma n52 v1 v2 v3 v5 ml mb = some (o0, o_ml, o_mb) → W p l e (headSpec (Cond.code yX9_ahead cX9_ahead 7 (some .int) :: gT) { frames := 3, cells := 0, slots := 0, locals := 66 }).room s m [.ref (xB X 0), .int a1, .int a2].toArray below meth c H locs 0 0 (MQ below (wQ (some (.int o0)) (fun H => va_P X.1 vwCl (cM X mi o_ml ma o_mb) H) (mA X)) [.ref (xB X 0), .int a1, .int a2].toArray s 0 0 (mA X)) (F0 m 52 ls []) := by
    intro n52
    induction n52 with
    | zero =>
      intro v1 v2 v3 v5 ml mb H locs ls hl hP hS h
      rw [X9_ahead_52] at h
      cases h
    | succ n52 ih52 =>
      intro v1 v2 v3 v5 ml mb H locs ls hl hP hS h
      rw [X9_ahead_52] at h
      have hL96 : ∀ (v1 : Int32) (v2 : Int32) (v3 : Int64) (v5 : Int32) (t0 : Int32) (ml : Nat → Int64) (mb : Nat → Nat → Int64) (H : Heap) (locs : List Loc) (ls : Array Slot), lv_has ls 7 [(0, .ref (xB X 0)), (1, .int v1), (2, .int v2), (3, .long v3), (5, .int v5)] → va_P X.1 vwCl (cM X mi ml ma mb) H → va_S (mA X) s.heap H locs → X9_ahead_96 mi ma (X9_ahead_52 mi ma n52) v1 v2 v3 v5 t0 ml mb = some (o0, o_ml, o_mb) → W p l e (headSpec (Cond.code yX9_ahead cX9_ahead 7 (some .int) :: gT) { frames := 3, cells := 0, slots := 0, locals := 66 }).room s m [.ref (xB X 0), .int a1, .int a2].toArray below meth c H locs 0 0 (MQ below (wQ (some (.int o0)) (fun H => va_P X.1 vwCl (cM X mi o_ml ma o_mb) H) (mA X)) [.ref (xB X 0), .int a1, .int a2].toArray s 0 0 (mA X)) (F0 m 96 ls [.int t0]) := by
        intro v1 v2 v3 v5 t0 ml mb H locs ls hl hP hS h
        rw [X9_ahead_96] at h
        refine lv_istore (lv' := [(6, .int t0), (0, .ref (xB X 0)), (1, .int v1), (2, .int v2), (3, .long v3), (5, .int v5)]) hx hb dX9_ahead_96 hl (by decide) rfl (fun ls hl => ?_)
        refine lv_lload_n hx hb dX9_ahead_98 rfl (lv_at hl 4 rfl) ?_
        refine lv_iload hx hb dX9_ahead_99 (lv_at hl 0 rfl) ?_
        refine lv_if_eq (tgt := 126) hx hb dX9_ahead_101 (by decide) (fun c101 => ?_) (fun c101 => ?_)
        · replace h := if_t c101 h
          refine lv_lconst (v := 0) hx hb dX9_ahead_126 (by decide) ?_
          refine lv_ladd hx hb dX9_ahead_127 ?_
          refine lv_lstore_n (lv' := [(3, .long (v3 + (0 : Int64))), (6, .int t0), (0, .ref (xB X 0)), (1, .int v1), (2, .int v2), (5, .int v5)]) hx hb dX9_ahead_128 rfl hl (by decide) rfl (fun ls hl => ?_)
          refine lv_iinc (v := (v5 + (1 : Int32))) (lv' := [(5, .int (v5 + (1 : Int32))), (3, .long (v3 + (0 : Int64))), (6, .int t0), (0, .ref (xB X 0)), (1, .int v1), (2, .int v2)]) hx hb dX9_ahead_129 hl (k := 5) rfl rfl (by decide) rfl (fun ls hl => ?_)
          refine lv_goto (tgt := 52) hx hb dX9_ahead_132 (by decide) ?_
          exact ih52 v1 v2 (v3 + (0 : Int64)) (v5 + (1 : Int32)) ml mb _ _ ls (lv_sub hl [3, 4, 5, 1, 0] rfl) hP hS h
        · replace h := if_f c101 h
          refine lv_aload_n hx hb dX9_ahead_104 rfl (lv_at hl 1 rfl) ?_
          refine rg_M_aheadSet hx hb hT hown hK hP w_818 dX9_ahead_105 ?_
          refine lv_iload hx hb dX9_ahead_108 (lv_at hl 5 rfl) ?_
          obtain ⟨hi110, h⟩ := gd_e h
          refine ra_b1 hx hb hK hP (ib_in hi110) dX9_ahead_110 ?_
          refine lv_aload_n hx hb dX9_ahead_111 rfl (lv_at hl 1 rfl) ?_
          refine rg_M_behindSet hx hb hT hown hK hP w_817 dX9_ahead_112 ?_
          refine lv_iload hx hb dX9_ahead_115 (lv_at hl 5 rfl) ?_
          refine lv_iconst (v := 1) hx hb dX9_ahead_117 (by decide) ?_
          refine lv_iload_n hx hb dX9_ahead_118 rfl (lv_at hl 2 rfl) ?_
          refine lv_ishl hx hb dX9_ahead_119 ?_
          refine lv_ior hx hb dX9_ahead_120 ?_
          obtain ⟨hi121, h⟩ := gd_e h
          refine ra_b0 hx hb hK hP (ib_in hi121) dX9_ahead_121 ?_
          refine lv_lmul hx hb dX9_ahead_122 ?_
          refine lv_goto (tgt := 127) hx hb dX9_ahead_123 (by decide) ?_
          refine lv_ladd hx hb dX9_ahead_127 ?_
          refine lv_topl (fun v3_128 ev3_128 => ?_)
          replace h := lt_e h ev3_128
          refine lv_lstore_n (lv' := [(3, .long v3_128), (6, .int t0), (0, .ref (xB X 0)), (1, .int v1), (2, .int v2), (5, .int v5)]) hx hb dX9_ahead_128 rfl hl (by decide) rfl (fun ls hl => ?_)
          refine lv_iinc (v := (v5 + (1 : Int32))) (lv' := [(5, .int (v5 + (1 : Int32))), (3, .long v3_128), (6, .int t0), (0, .ref (xB X 0)), (1, .int v1), (2, .int v2)]) hx hb dX9_ahead_129 hl (k := 5) rfl rfl (by decide) rfl (fun ls hl => ?_)
          refine lv_goto (tgt := 52) hx hb dX9_ahead_132 (by decide) ?_
          exact ih52 v1 v2 v3_128 (v5 + (1 : Int32)) ml mb _ _ ls (lv_sub hl [3, 4, 5, 1, 0] rfl) hP hS h
      refine lv_iload hx hb dX9_ahead_52 (lv_at hl 4 rfl) ?_
      refine lv_sipush (v := 128) hx hb dX9_ahead_54 (by decide) ?_
      refine lv_icmp_ge (tgt := 135) hx hb dX9_ahead_57 (by decide) (fun c57 => ?_) (fun c57 => ?_)
      · replace h := if_t c57 h
        refine lv_aload_n hx hb dX9_ahead_135 rfl (lv_at hl 0 rfl) ?_
        refine lv_lload_n hx hb dX9_ahead_136 rfl (lv_at hl 3 rfl) ?_
        refine lv_aload_n hx hb dX9_ahead_137 rfl (lv_at hl 0 rfl) ?_
        refine rg_M_behindSet hx hb hT hown hK hP w_817 dX9_ahead_138 ?_
        refine lv_iconst (v := 0) hx hb dX9_ahead_141 (by decide) ?_
        obtain ⟨hi142, h⟩ := gd_e h
        refine ra_b0 hx hb hK hP (ib_in hi142) dX9_ahead_142 ?_
        obtain ⟨ml_143, hc143, h⟩ := Option.bind_eq_some_iff.mp h
        refine wcV (As := [.long v3, .long (mb 0 (0 : Int32).toNatClampNeg)]) (rest := []) ⟨hx, hb, hml, hown, hts⟩ (c_X9_tellOdds l X mi ml ma mb v3 (mb 0 (0 : Int32).toNatClampNeg) hc143) ⟨w_1208, w_1210, w_45, w_58, w_1211⟩ hd_X9_tellOdds rfl rfl ⟨(Nat.le_of_ble_eq_true rfl), (Nat.le_of_ble_eq_true rfl)⟩ ⟨Nat.zero_le _, Nat.zero_le _⟩ mPre_blind (va_recv hK hP (ci := 5) rfl cM_o) (mPre_call hP hK hN) hS (fun _ h => h) rfl rfl hl.1 (Nat.le_of_ble_eq_true rfl) dX9_ahead_143 (fun H locs hP _ hS => ?_)
        have hP : va_P X.1 vwCl (cM X mi ml_143 ma mb) H := hP
        refine W.eq (g2 := F0 m 146 ls []) rfl ?_
        refine lv_iconst (v := 1) hx hb dX9_ahead_146 (by decide) ?_
        cases h
        exact W.iret hx hb hr (fun t ht _ => ⟨rfl, by rw [ht]; exact hP, hS.F ht⟩) hS.2.2 dX9_ahead_147
      · replace h := if_f c57 h
        refine lv_iload hx hb dX9_ahead_60 (lv_at hl 4 rfl) ?_
        refine lv_iload_n hx hb dX9_ahead_62 rfl (lv_at hl 2 rfl) ?_
        obtain ⟨r63, hc63, h⟩ := Option.bind_eq_some_iff.mp h
        refine rcS (As := [.int v5, .int v2]) (rest := []) ⟨hx, hb, hml, hown, hts⟩ (c_X9_has l v5 v2 hc63) ⟨w_1104, w_1105, w_58, w_1106⟩ hd_X9_has rfl rfl ⟨(Nat.le_of_ble_eq_true rfl), (Nat.le_of_ble_eq_true rfl)⟩ ⟨Nat.zero_le _, Nat.zero_le _⟩ (fun _ _ _ _ h => h) (fun _ _ _ => trivial) rfl rfl hl.1 (Nat.le_of_ble_eq_true rfl) dX9_ahead_63 ?_
        refine lv_if_ne (tgt := 95) hx hb dX9_ahead_66 (by decide) (fun c66 => ?_) (fun c66 => ?_)
        · replace h := if_f c66 h
          refine lv_iconst (v := 0) hx hb dX9_ahead_95 (by decide) ?_
          exact hL96 v1 v2 v3 v5 (0 : Int32) ml mb _ _ ls (lv_sub hl [0, 1, 2, 3, 4] rfl) hP hS h
        · replace h := if_t c66 h
          refine lv_aload_n hx hb dX9_ahead_69 rfl (lv_at hl 0 rfl) ?_
          refine rg_M_aheadSet hx hb hT hown hK hP w_818 dX9_ahead_70 ?_
          refine lv_iload hx hb dX9_ahead_73 (lv_at hl 4 rfl) ?_
          obtain ⟨hi75, h⟩ := gd_e h
          refine ra_b1 hx hb hK hP (ib_in hi75) dX9_ahead_75 ?_
          refine lv_lconst (v := 0) hx hb dX9_ahead_76 (by decide) ?_
          refine W.lcmp hx hb dX9_ahead_77 ?_
          refine lv_if_le (tgt := 95) hx hb dX9_ahead_78 (by decide) (fun c78 => ?_) (fun c78 => ?_)
          · replace h := if_t c78 h
            refine lv_iconst (v := 0) hx hb dX9_ahead_95 (by decide) ?_
            exact hL96 v1 v2 v3 v5 (0 : Int32) ml mb _ _ ls (lv_sub hl [0, 1, 2, 3, 4] rfl) hP hS h
          · replace h := if_f c78 h
            refine lv_aload_n hx hb dX9_ahead_81 rfl (lv_at hl 0 rfl) ?_
            refine lv_iload_n hx hb dX9_ahead_82 rfl (lv_at hl 1 rfl) ?_
            refine lv_iload hx hb dX9_ahead_83 (lv_at hl 4 rfl) ?_
            obtain ⟨r85, hc85, h⟩ := Option.bind_eq_some_iff.mp h
            refine rcV (As := [.int v1, .int v5]) (rest := []) ⟨hx, hb, hml, hown, hts⟩ (c_X9_mayCome l X mi ml ma mb v1 v5 hc85) ⟨w_1196, w_1198, w_43, w_58, w_1199⟩ hd_X9_mayCome rfl rfl ⟨(Nat.le_of_ble_eq_true rfl), (Nat.le_of_ble_eq_true rfl)⟩ ⟨Nat.zero_le _, Nat.zero_le _⟩ mPre_blind (va_recv hK hP (ci := 5) rfl cM_o) (mPre_call hP hK hN) rfl rfl hl.1 (Nat.le_of_ble_eq_true rfl) dX9_ahead_85 ?_
            refine lv_if_eq (tgt := 95) hx hb dX9_ahead_88 (by decide) (fun c88 => ?_) (fun c88 => ?_)
            · replace h := if_t c88 h
              refine lv_iconst (v := 0) hx hb dX9_ahead_95 (by decide) ?_
              exact hL96 v1 v2 v3 v5 (0 : Int32) ml mb _ _ ls (lv_sub hl [0, 1, 2, 3, 4] rfl) hP hS h
            · replace h := if_f c88 h
              refine lv_iconst (v := 1) hx hb dX9_ahead_91 (by decide) ?_
              refine lv_goto (tgt := 96) hx hb dX9_ahead_92 (by decide) ?_
              exact hL96 v1 v2 v3 v5 (1 : Int32) ml mb _ _ ls (lv_sub hl [0, 1, 2, 3, 4] rfl) hP hS h
  rw [X9_ahead] at h
  refine lv_aload_n hx hb dX9_ahead_0 rfl (lv_at hl 0 rfl) ?_
  refine lv_iload_n hx hb dX9_ahead_1 rfl (lv_at hl 1 rfl) ?_
  obtain ⟨r2, hc2, h⟩ := Option.bind_eq_some_iff.mp h
  refine rcV (As := [.int a1]) (rest := []) ⟨hx, hb, hml, hown, hts⟩ (c_X9_isOne l X mi ml ma mb a1 hc2) ⟨w_986, w_988, w_18, w_58, w_989⟩ hd_X9_isOne rfl rfl ⟨(Nat.le_of_ble_eq_true rfl), (Nat.le_of_ble_eq_true rfl)⟩ ⟨Nat.zero_le _, Nat.zero_le _⟩ mPre_blind (va_recv hK hP (ci := 5) rfl cM_o) (mPre_call hP hK hN) rfl rfl hl.1 (Nat.le_of_ble_eq_true rfl) dX9_ahead_2 ?_
  refine lv_if_eq (tgt := 37) hx hb dX9_ahead_5 (by decide) (fun c5 => ?_) (fun c5 => ?_)
  · replace h := if_t c5 h
    refine lv_iconst (v := -1) hx hb dX9_ahead_37 (by decide) ?_
    cases h
    exact W.iret hx hb hr (fun t ht _ => ⟨rfl, by rw [ht]; exact hP, hS.F ht⟩) hS.2.2 dX9_ahead_38
  · replace h := if_f c5 h
    refine lv_aload_n hx hb dX9_ahead_8 rfl (lv_at hl 0 rfl) ?_
    refine lv_iload_n hx hb dX9_ahead_9 rfl (lv_at hl 2 rfl) ?_
    obtain ⟨r10, hc10, h⟩ := Option.bind_eq_some_iff.mp h
    refine rcV (As := [.int a2]) (rest := []) ⟨hx, hb, hml, hown, hts⟩ (c_X9_isOne l X mi ml ma mb a2 hc10) ⟨w_986, w_988, w_18, w_58, w_989⟩ hd_X9_isOne rfl rfl ⟨(Nat.le_of_ble_eq_true rfl), (Nat.le_of_ble_eq_true rfl)⟩ ⟨Nat.zero_le _, Nat.zero_le _⟩ mPre_blind (va_recv hK hP (ci := 5) rfl cM_o) (mPre_call hP hK hN) rfl rfl hl.1 (Nat.le_of_ble_eq_true rfl) dX9_ahead_10 ?_
    refine lv_if_eq (tgt := 37) hx hb dX9_ahead_13 (by decide) (fun c13 => ?_) (fun c13 => ?_)
    · replace h := if_t c13 h
      refine lv_iconst (v := -1) hx hb dX9_ahead_37 (by decide) ?_
      cases h
      exact W.iret hx hb hr (fun t ht _ => ⟨rfl, by rw [ht]; exact hP, hS.F ht⟩) hS.2.2 dX9_ahead_38
    · replace h := if_f c13 h
      refine lv_iload_n hx hb dX9_ahead_16 rfl (lv_at hl 1 rfl) ?_
      refine lv_iload_n hx hb dX9_ahead_17 rfl (lv_at hl 2 rfl) ?_
      refine lv_icmp_eq (tgt := 37) hx hb dX9_ahead_18 (by decide) (fun c18 => ?_) (fun c18 => ?_)
      · replace h := if_t c18 h
        refine lv_iconst (v := -1) hx hb dX9_ahead_37 (by decide) ?_
        cases h
        exact W.iret hx hb hr (fun t ht _ => ⟨rfl, by rw [ht]; exact hP, hS.F ht⟩) hS.2.2 dX9_ahead_38
      · replace h := if_f c18 h
        refine lv_aload_n hx hb dX9_ahead_21 rfl (lv_at hl 0 rfl) ?_
        refine lv_iload_n hx hb dX9_ahead_22 rfl (lv_at hl 1 rfl) ?_
        obtain ⟨r23, hc23, h⟩ := Option.bind_eq_some_iff.mp h
        refine rcV (As := [.int a1]) (rest := []) ⟨hx, hb, hml, hown, hts⟩ (c_X9_isStuck l X mi ml ma mb a1 hc23) ⟨w_1026, w_1028, w_27, w_58, w_1029⟩ hd_X9_isStuck rfl rfl ⟨(Nat.le_of_ble_eq_true rfl), (Nat.le_of_ble_eq_true rfl)⟩ ⟨Nat.zero_le _, Nat.zero_le _⟩ mPre_blind (va_recv hK hP (ci := 5) rfl cM_o) (mPre_call hP hK hN) rfl rfl hl.1 (Nat.le_of_ble_eq_true rfl) dX9_ahead_23 ?_
        refine lv_if_eq (tgt := 37) hx hb dX9_ahead_26 (by decide) (fun c26 => ?_) (fun c26 => ?_)
        · replace h := if_t c26 h
          refine lv_iconst (v := -1) hx hb dX9_ahead_37 (by decide) ?_
          cases h
          exact W.iret hx hb hr (fun t ht _ => ⟨rfl, by rw [ht]; exact hP, hS.F ht⟩) hS.2.2 dX9_ahead_38
        · replace h := if_f c26 h
          refine lv_aload_n hx hb dX9_ahead_29 rfl (lv_at hl 0 rfl) ?_
          refine lv_iload_n hx hb dX9_ahead_30 rfl (lv_at hl 2 rfl) ?_
          obtain ⟨r31, hc31, h⟩ := Option.bind_eq_some_iff.mp h
          refine rcV (As := [.int a2]) (rest := []) ⟨hx, hb, hml, hown, hts⟩ (c_X9_isStuck l X mi ml ma mb a2 hc31) ⟨w_1026, w_1028, w_27, w_58, w_1029⟩ hd_X9_isStuck rfl rfl ⟨(Nat.le_of_ble_eq_true rfl), (Nat.le_of_ble_eq_true rfl)⟩ ⟨Nat.zero_le _, Nat.zero_le _⟩ mPre_blind (va_recv hK hP (ci := 5) rfl cM_o) (mPre_call hP hK hN) rfl rfl hl.1 (Nat.le_of_ble_eq_true rfl) dX9_ahead_31 ?_
          refine lv_if_ne (tgt := 39) hx hb dX9_ahead_34 (by decide) (fun c34 => ?_) (fun c34 => ?_)
          · replace h := if_f c34 h
            refine lv_aload_n hx hb dX9_ahead_39 rfl (lv_at hl 0 rfl) ?_
            obtain ⟨mb_40, hc40, h⟩ := Option.bind_eq_some_iff.mp h
            refine wcV (As := []) (rest := []) ⟨hx, hb, hml, hown, hts⟩ (c_X9_findBehind l X mi ml ma mb hc40) ⟨w_1192, w_1194, w_42, w_58, w_1195⟩ hd_X9_findBehind rfl rfl ⟨(Nat.le_of_ble_eq_true rfl), (Nat.le_of_ble_eq_true rfl)⟩ ⟨Nat.zero_le _, Nat.zero_le _⟩ mPre_blind (va_recv hK hP (ci := 5) rfl cM_o) (mPre_call hP hK hN) hS (fun _ h => h) rfl rfl hl.1 (Nat.le_of_ble_eq_true rfl) dX9_ahead_40 (fun H locs hP _ hS => ?_)
            have hP : va_P X.1 vwCl (cM X mi ml ma mb_40) H := hP
            refine W.eq (g2 := F0 m 43 ls []) rfl ?_
            refine lv_aload_n hx hb dX9_ahead_43 rfl (lv_at hl 0 rfl) ?_
            obtain ⟨mb_44, hc44, h⟩ := Option.bind_eq_some_iff.mp h
            refine wcV (As := []) (rest := []) ⟨hx, hb, hml, hown, hts⟩ (c_X9_findAhead l X mi ml ma mb_40 hc44) ⟨w_1204, w_1206, w_44, w_58, w_1207⟩ hd_X9_findAhead rfl rfl ⟨(Nat.le_of_ble_eq_true rfl), (Nat.le_of_ble_eq_true rfl)⟩ ⟨Nat.zero_le _, Nat.zero_le _⟩ mPre_blind (va_recv hK hP (ci := 5) rfl cM_o) (mPre_call hP hK hN) hS (fun _ h => h) rfl rfl hl.1 (Nat.le_of_ble_eq_true rfl) dX9_ahead_44 (fun H locs hP _ hS => ?_)
            have hP : va_P X.1 vwCl (cM X mi ml ma mb_44) H := hP
            refine W.eq (g2 := F0 m 47 ls []) rfl ?_
            refine lv_lconst (v := 0) hx hb dX9_ahead_47 (by decide) ?_
            refine lv_lstore_n (lv' := [(3, .long (0 : Int64)), (0, .ref (xB X 0)), (1, .int a1), (2, .int a2)]) hx hb dX9_ahead_48 rfl hl (by decide) rfl (fun ls hl => ?_)
            refine lv_iconst (v := 0) hx hb dX9_ahead_49 (by decide) ?_
            refine lv_istore (lv' := [(5, .int (0 : Int32)), (3, .long (0 : Int64)), (0, .ref (xB X 0)), (1, .int a1), (2, .int a2)]) hx hb dX9_ahead_50 hl (by decide) rfl (fun ls hl => ?_)
            exact hL52 500 a1 a2 (0 : Int64) (0 : Int32) ml mb_44 _ _ ls (lv_sub hl [2, 3, 4, 1, 0] rfl) hP hS h
          · replace h := if_t c34 h
            refine lv_iconst (v := -1) hx hb dX9_ahead_37 (by decide) ?_
            cases h
            exact W.iret hx hb hr (fun t ht _ => ⟨rfl, by rw [ht]; exact hP, hS.F ht⟩) hS.2.2 dX9_ahead_38
set_option maxRecDepth 100000 in
set_option maxHeartbeats 4000000 in
theorem c_X9_nth (l : Launch) (X : gX) (mi : Nat → Int32) (ml : Nat → Int64) (ma : Nat → Nat → Int32) (mb : Nat → Nat → Int64) (a1 : Int32) (a2 : Int32) {o0 : Int32} {o_mi : Nat → Int32} {o_ma : Nat → Nat → Int32} {o_mb : Nat → Nat → Int64} (h : X9_nth a1 a2 mi ma mb = some (o0, o_mi, o_ma, o_mb)) : Met l yX9_nth (Cond.code yX9_nth cX9_nth 10 (some .int) :: gT) { frames := 3, cells := 0, slots := 0, locals := 68 } (va_Pc [.ref (xB X 0), .int a1, .int a2] (mPre X mi ml ma mb)) (wQ (some (.int o0)) (fun H => va_P X.1 vwCl (cM X o_mi ml o_ma o_mb) H) (mA X)) 0 0 (mA X) := by
  refine Met.ofW (cc := cX9_nth) (maxL := 10) (ret := (some .int)) (by decide) rfl ?_
  intro p e s m args below meth c s₁ B hml hv
  obtain ⟨rfl, hP, hK, hN⟩ := hv
  have hx := B.exec
  have hb := B.bytes
  have hr := B.returns
  have hts := atoms_spec (ws := (Cond.code yX9_nth cX9_nth 10 (some .int) :: gT)) B.pre
  have hT : ∀ w ∈ gT, w.before _ s = true := fun w hw => hts w (List.mem_cons_of_mem _ hw)
  have hown : s.vm.findClass RX9 = some m.cls := findClass_of_methodNamed B.named
  have hlocks := B.notSynchronized
  have hS : va_S (mA X) s.heap s.heap [] := va_S.rf
  have hl := lv_entry ([.ref (xB X 0), .int a1, .int a2]) (n := 10) (Nat.le_of_ble_eq_true rfl)
  rw [lg_entry_eq]
  generalize (lg_sl ([.ref (xB X 0), .int a1, .int a2]) ++ List.replicate (10 - (lg_sl ([.ref (xB X 0), .int a1, .int a2])).length) Slot.unset).toArray = ls at hl ⊢
  have hl : lv_has ls 10 [(0, .ref (xB X 0)), (1, .int a1), (2, .int a2)] := hl
  have hL61 : ∀ (n61 : Nat) (v2 : Int32) (v3 : Int32) (v5 : Int64) (v7 : Int32) (v8 : Int32) (mi : Nat → Int32) (ma : Nat → Nat → Int32) (mb : Nat → Nat → Int64) (H : Heap) (locs : List Loc) (ls : Array Slot), lv_has ls 10 [(0, .ref (xB X 0)), (2, .int v2), (3, .int v3), (5, .long v5), (7, .int v7), (8, .int v8)] → va_P X.1 vwCl (cM X mi ml ma mb) H → va_S (mA X) s.heap H locs → X9_nth_61 n61 v2 v3 v5 v7 v8 mi ma mb = some (o0, o_mi, o_ma, o_mb) → W p l e (headSpec (Cond.code yX9_nth cX9_nth 10 (some .int) :: gT) { frames := 3, cells := 0, slots := 0, locals := 68 }).room s m [.ref (xB X 0), .int a1, .int a2].toArray below meth c H locs 0 0 (MQ below (wQ (some (.int o0)) (fun H => va_P X.1 vwCl (cM X o_mi ml o_ma o_mb) H) (mA X)) [.ref (xB X 0), .int a1, .int a2].toArray s 0 0 (mA X)) (F0 m 61 ls []) := by
    intro n61
    induction n61 with
    | zero =>
      intro v2 v3 v5 v7 v8 mi ma mb H locs ls hl hP hS h
      rw [X9_nth_61] at h
      cases h
    | succ n61 ih61 =>
      intro v2 v3 v5 v7 v8 mi ma mb H locs ls hl hP hS h
      rw [X9_nth_61] at h
      have hL70 : ∀ (n70 : Nat) (v2 : Int32) (v3 : Int32) (v5 : Int64) (v7 : Int32) (v8 : Int32) (v9 : Int32) (mi : Nat → Int32) (ma : Nat → Nat → Int32) (mb : Nat → Nat → Int64) (H : Heap) (locs : List Loc) (ls : Array Slot), lv_has ls 10 [(0, .ref (xB X 0)), (2, .int v2), (3, .int v3), (5, .long v5), (7, .int v7), (8, .int v8), (9, .int v9)] → va_P X.1 vwCl (cM X mi ml ma mb) H → va_S (mA X) s.heap H locs → X9_nth_70 (X9_nth_61 n61) n70 v2 v3 v5 v7 v8 v9 mi ma mb = some (o0, o_mi, o_ma, o_mb) → W p l e (headSpec (Cond.code yX9_nth cX9_nth 10 (some .int) :: gT) { frames := 3, cells := 0, slots := 0, locals := 68 }).room s m [.ref (xB X 0), .int a1, .int a2].toArray below meth c H locs 0 0 (MQ below (wQ (some (.int o0)) (fun H => va_P X.1 vwCl (cM X o_mi ml o_ma o_mb) H) (mA X)) [.ref (xB X 0), .int a1, .int a2].toArray s 0 0 (mA X)) (F0 m 70 ls []) := by
        intro n70
        induction n70 with
        | zero =>
          intro v2 v3 v5 v7 v8 v9 mi ma mb H locs ls hl hP hS h
          rw [X9_nth_70] at h
          cases h
        | succ n70 ih70 =>
          intro v2 v3 v5 v7 v8 v9 mi ma mb H locs ls hl hP hS h
          rw [X9_nth_70] at h
          have hL99 : ∀ (v2 : Int32) (v3 : Int32) (v5 : Int64) (v7 : Int32) (v8 : Int32) (v9 : Int32) (mi : Nat → Int32) (ma : Nat → Nat → Int32) (mb : Nat → Nat → Int64) (H : Heap) (locs : List Loc) (ls : Array Slot), lv_has ls 10 [(0, .ref (xB X 0)), (2, .int v2), (3, .int v3), (5, .long v5), (7, .int v7), (8, .int v8), (9, .int v9)] → va_P X.1 vwCl (cM X mi ml ma mb) H → va_S (mA X) s.heap H locs → X9_nth_99 (X9_nth_61 n61) (X9_nth_70 (X9_nth_61 n61) n70) v2 v3 v5 v7 v8 v9 mi ma mb = some (o0, o_mi, o_ma, o_mb) → W p l e (headSpec (Cond.code yX9_nth cX9_nth 10 (some .int) :: gT) { frames := 3, cells := 0, slots := 0, locals := 68 }).room s m [.ref (xB X 0), .int a1, .int a2].toArray below meth c H locs 0 0 (MQ below (wQ (some (.int o0)) (fun H => va_P X.1 vwCl (cM X o_mi ml o_ma o_mb) H) (mA X)) [.ref (xB X 0), .int a1, .int a2].toArray s 0 0 (mA X)) (F0 m 99 ls []) := by
            intro v2 v3 v5 v7 v8 v9 mi ma mb H locs ls hl hP hS h
            rw [X9_nth_99] at h
            refine lv_lload hx hb dX9_nth_99 (lv_at hl 3 rfl) ?_
            refine lv_aload_n hx hb dX9_nth_101 rfl (lv_at hl 0 rfl) ?_
            refine lv_iload hx hb dX9_nth_102 (lv_at hl 6 rfl) ?_
            refine lv_iload hx hb dX9_nth_104 (lv_at hl 4 rfl) ?_
            obtain ⟨r106, hc106, h⟩ := Option.bind_eq_some_iff.mp h
            refine rcV (As := [.int v9, .int v7]) (rest := [.long v5]) ⟨hx, hb, hml, hown, hts⟩ (c_X9_mayCome l X mi ml ma mb v9 v7 hc106) ⟨w_1196, w_1198, w_43, w_58, w_1199⟩ hd_X9_mayCome rfl rfl ⟨(Nat.le_of_ble_eq_true rfl), (Nat.le_of_ble_eq_true rfl)⟩ ⟨Nat.zero_le _, Nat.zero_le _⟩ mPre_blind (va_recv hK hP (ci := 5) rfl cM_o) (mPre_call hP hK hN) rfl rfl hl.1 (Nat.le_of_ble_eq_true rfl) dX9_nth_106 ?_
            refine lv_if_eq (tgt := 127) hx hb dX9_nth_109 (by decide) (fun c109 => ?_) (fun c109 => ?_)
            · replace h := if_t c109 h
              refine lv_lconst (v := 0) hx hb dX9_nth_127 (by decide) ?_
              refine lv_lsub hx hb dX9_nth_128 ?_
              refine lv_lstore (lv' := [(5, .long (v5 - (0 : Int64))), (0, .ref (xB X 0)), (2, .int v2), (3, .int v3), (7, .int v7), (8, .int v8), (9, .int v9)]) hx hb dX9_nth_129 hl (by decide) rfl (fun ls hl => ?_)
              refine lv_iinc (v := (v9 + (1 : Int32))) (lv' := [(9, .int (v9 + (1 : Int32))), (5, .long (v5 - (0 : Int64))), (0, .ref (xB X 0)), (2, .int v2), (3, .int v3), (7, .int v7), (8, .int v8)]) hx hb dX9_nth_131 hl (k := 6) rfl rfl (by decide) rfl (fun ls hl => ?_)
              refine lv_goto (tgt := 70) hx hb dX9_nth_134 (by decide) ?_
              exact ih70 v2 v3 (v5 - (0 : Int64)) v7 v8 (v9 + (1 : Int32)) mi ma mb _ _ ls (lv_sub hl [2, 3, 4, 1, 5, 6, 0] rfl) hP hS h
            · replace h := if_f c109 h
              refine lv_aload_n hx hb dX9_nth_112 rfl (lv_at hl 0 rfl) ?_
              refine rg_M_behindSet hx hb hT hown hK hP w_817 dX9_nth_113 ?_
              refine lv_iload hx hb dX9_nth_116 (lv_at hl 4 rfl) ?_
              refine lv_iconst (v := 1) hx hb dX9_nth_118 (by decide) ?_
              refine lv_iload hx hb dX9_nth_119 (lv_at hl 6 rfl) ?_
              refine lv_ishl hx hb dX9_nth_121 ?_
              refine lv_ior hx hb dX9_nth_122 ?_
              obtain ⟨hi123, h⟩ := gd_e h
              refine ra_b0 hx hb hK hP (ib_in hi123) dX9_nth_123 ?_
              refine lv_goto (tgt := 128) hx hb dX9_nth_124 (by decide) ?_
              refine lv_lsub hx hb dX9_nth_128 ?_
              refine lv_topl (fun v5_129 ev5_129 => ?_)
              replace h := lt_e h ev5_129
              refine lv_lstore (lv' := [(5, .long v5_129), (0, .ref (xB X 0)), (2, .int v2), (3, .int v3), (7, .int v7), (8, .int v8), (9, .int v9)]) hx hb dX9_nth_129 hl (by decide) rfl (fun ls hl => ?_)
              refine lv_iinc (v := (v9 + (1 : Int32))) (lv' := [(9, .int (v9 + (1 : Int32))), (5, .long v5_129), (0, .ref (xB X 0)), (2, .int v2), (3, .int v3), (7, .int v7), (8, .int v8)]) hx hb dX9_nth_131 hl (k := 6) rfl rfl (by decide) rfl (fun ls hl => ?_)
              refine lv_goto (tgt := 70) hx hb dX9_nth_134 (by decide) ?_
              exact ih70 v2 v3 v5_129 v7 v8 (v9 + (1 : Int32)) mi ma mb _ _ ls (lv_sub hl [2, 3, 4, 1, 5, 6, 0] rfl) hP hS h
          refine lv_aload_n hx hb dX9_nth_70 rfl (lv_at hl 0 rfl) ?_
          refine lv_iload hx hb dX9_nth_71 (lv_at hl 6 rfl) ?_
          refine lv_iload hx hb dX9_nth_73 (lv_at hl 4 rfl) ?_
          obtain ⟨r75, hc75, h⟩ := Option.bind_eq_some_iff.mp h
          refine rcV (As := [.int v9, .int v7]) (rest := []) ⟨hx, hb, hml, hown, hts⟩ (c_X9_mayCome l X mi ml ma mb v9 v7 hc75) ⟨w_1196, w_1198, w_43, w_58, w_1199⟩ hd_X9_mayCome rfl rfl ⟨(Nat.le_of_ble_eq_true rfl), (Nat.le_of_ble_eq_true rfl)⟩ ⟨Nat.zero_le _, Nat.zero_le _⟩ mPre_blind (va_recv hK hP (ci := 5) rfl cM_o) (mPre_call hP hK hN) rfl rfl hl.1 (Nat.le_of_ble_eq_true rfl) dX9_nth_75 ?_
          refine lv_if_eq (tgt := 99) hx hb dX9_nth_78 (by decide) (fun c78 => ?_) (fun c78 => ?_)
          · replace h := if_t c78 h
            exact hL99 v2 v3 v5 v7 v8 v9 mi ma mb _ _ ls (lv_sub hl [0, 1, 2, 3, 4, 5, 6] rfl) hP hS h
          · replace h := if_f c78 h
            refine lv_lload hx hb dX9_nth_81 (lv_at hl 3 rfl) ?_
            refine lv_aload_n hx hb dX9_nth_83 rfl (lv_at hl 0 rfl) ?_
            refine rg_M_behindSet hx hb hT hown hK hP w_817 dX9_nth_84 ?_
            refine lv_iload hx hb dX9_nth_87 (lv_at hl 4 rfl) ?_
            refine lv_iconst (v := 1) hx hb dX9_nth_89 (by decide) ?_
            refine lv_iload hx hb dX9_nth_90 (lv_at hl 6 rfl) ?_
            refine lv_ishl hx hb dX9_nth_92 ?_
            refine lv_ior hx hb dX9_nth_93 ?_
            obtain ⟨hi94, h⟩ := gd_e h
            refine ra_b0 hx hb hK hP (ib_in hi94) dX9_nth_94 ?_
            refine W.lcmp hx hb dX9_nth_95 ?_
            refine lv_if_lt (tgt := 137) hx hb dX9_nth_96 (by decide) (fun c96 => ?_) (fun c96 => ?_)
            · replace h := if_t c96 h
              refine lv_aload_n hx hb dX9_nth_137 rfl (lv_at hl 0 rfl) ?_
              refine rg_M_rows hx hb hT hown hK hP w_797 dX9_nth_138 ?_
              refine lv_bipush (v := 40) hx hb dX9_nth_141 (by decide) ?_
              refine lv_iload_n hx hb dX9_nth_143 rfl (lv_at hl 1 rfl) ?_
              refine lv_imul hx hb dX9_nth_144 ?_
              refine lv_iload hx hb dX9_nth_145 (lv_at hl 5 rfl) ?_
              refine lv_iadd hx hb dX9_nth_147 ?_
              refine lv_iload hx hb dX9_nth_148 (lv_at hl 6 rfl) ?_
              obtain ⟨hi150, h⟩ := gd_e h
              refine rs_m11 hx hb hK hP hN hS (ib_in hi150) dX9_nth_150 (fun H locs hP hS => ?_)
              generalize ema_150 : va_up ma 11 (upd (ma 11) (((40 : Int32) * v2) + v8).toNatClampNeg v9) = ma_150 at hP
              replace h := lt_g h ema_150
              refine lv_iload hx hb dX9_nth_151 (lv_at hl 4 rfl) ?_
              refine lv_iconst (v := 1) hx hb dX9_nth_153 (by decide) ?_
              refine lv_iload hx hb dX9_nth_154 (lv_at hl 6 rfl) ?_
              refine lv_ishl hx hb dX9_nth_156 ?_
              refine lv_ior hx hb dX9_nth_157 ?_
              refine lv_istore (lv' := [(7, .int (v7 ||| ((1 : Int32) <<< (v9 &&& 31)))), (0, .ref (xB X 0)), (2, .int v2), (3, .int v3), (5, .long v5), (8, .int v8), (9, .int v9)]) hx hb dX9_nth_158 hl (by decide) rfl (fun ls hl => ?_)
              refine lv_iinc (v := (v8 + (1 : Int32))) (lv' := [(8, .int (v8 + (1 : Int32))), (7, .int (v7 ||| ((1 : Int32) <<< (v9 &&& 31)))), (0, .ref (xB X 0)), (2, .int v2), (3, .int v3), (5, .long v5), (9, .int v9)]) hx hb dX9_nth_160 hl (k := 5) rfl rfl (by decide) rfl (fun ls hl => ?_)
              refine lv_goto (tgt := 61) hx hb dX9_nth_163 (by decide) ?_
              exact ih61 v2 v3 v5 (v7 ||| ((1 : Int32) <<< (v9 &&& 31))) (v8 + (1 : Int32)) mi ma_150 mb _ _ ls (lv_sub hl [2, 3, 4, 5, 1, 0] rfl) hP hS h
            · replace h := if_f c96 h
              exact hL99 v2 v3 v5 v7 v8 v9 mi ma mb _ _ ls (lv_sub hl [0, 1, 2, 3, 4, 5, 6] rfl) hP hS h
      refine lv_iload hx hb dX9_nth_61 (lv_at hl 5 rfl) ?_
      refine lv_iload_n hx hb dX9_nth_63 rfl (lv_at hl 2 rfl) ?_
      refine lv_icmp_ge (tgt := 166) hx hb dX9_nth_64 (by decide) (fun c64 => ?_) (fun c64 => ?_)
      · replace h := if_t c64 h
        refine lv_iconst (v := 1) hx hb dX9_nth_166 (by decide) ?_
        cases h
        exact W.iret hx hb hr (fun t ht _ => ⟨rfl, by rw [ht]; exact hP, hS.F ht⟩) hS.2.2 dX9_nth_167
      · replace h := if_f c64 h
        refine lv_iconst (v := 0) hx hb dX9_nth_67 (by decide) ?_
        refine lv_istore (lv' := [(9, .int (0 : Int32)), (0, .ref (xB X 0)), (2, .int v2), (3, .int v3), (5, .long v5), (7, .int v7), (8, .int v8)]) hx hb dX9_nth_68 hl (by decide) rfl (fun ls hl => ?_)
        exact hL70 500 v2 v3 v5 v7 v8 (0 : Int32) mi ma mb _ _ ls (lv_sub hl [1, 2, 3, 4, 5, 6, 0] rfl) hP hS h
  rw [X9_nth] at h
  refine lv_iload_n hx hb dX9_nth_0 rfl (lv_at hl 1 rfl) ?_
  refine lv_if_lt (tgt := 11) hx hb dX9_nth_1 (by decide) (fun c1 => ?_) (fun c1 => ?_)
  · replace h := if_t c1 h
    refine lv_iconst (v := -1) hx hb dX9_nth_11 (by decide) ?_
    cases h
    exact W.iret hx hb hr (fun t ht _ => ⟨rfl, by rw [ht]; exact hP, hS.F ht⟩) hS.2.2 dX9_nth_12
  · replace h := if_f c1 h
    refine lv_iload_n hx hb dX9_nth_4 rfl (lv_at hl 2 rfl) ?_
    obtain ⟨r5, hc5, h⟩ := Option.bind_eq_some_iff.mp h
    refine rcS (As := [.int a2]) (rest := []) ⟨hx, hb, hml, hown, hts⟩ (c_X9_isRow l a2 hc5) ⟨w_908, w_909, w_58, w_910⟩ hd_X9_isRow rfl rfl ⟨(Nat.le_of_ble_eq_true rfl), (Nat.le_of_ble_eq_true rfl)⟩ ⟨Nat.zero_le _, Nat.zero_le _⟩ (fun _ _ _ _ h => h) (fun _ _ _ => trivial) rfl rfl hl.1 (Nat.le_of_ble_eq_true rfl) dX9_nth_5 ?_
    refine lv_if_ne (tgt := 13) hx hb dX9_nth_8 (by decide) (fun c8 => ?_) (fun c8 => ?_)
    · replace h := if_f c8 h
      refine lv_aload_n hx hb dX9_nth_13 rfl (lv_at hl 0 rfl) ?_
      obtain ⟨mb_14, hc14, h⟩ := Option.bind_eq_some_iff.mp h
      refine wcV (As := []) (rest := []) ⟨hx, hb, hml, hown, hts⟩ (c_X9_findBehind l X mi ml ma mb hc14) ⟨w_1192, w_1194, w_42, w_58, w_1195⟩ hd_X9_findBehind rfl rfl ⟨(Nat.le_of_ble_eq_true rfl), (Nat.le_of_ble_eq_true rfl)⟩ ⟨Nat.zero_le _, Nat.zero_le _⟩ mPre_blind (va_recv hK hP (ci := 5) rfl cM_o) (mPre_call hP hK hN) hS (fun _ h => h) rfl rfl hl.1 (Nat.le_of_ble_eq_true rfl) dX9_nth_14 (fun H locs hP _ hS => ?_)
      have hP : va_P X.1 vwCl (cM X mi ml ma mb_14) H := hP
      refine W.eq (g2 := F0 m 17 ls []) rfl ?_
      refine lv_iload_n hx hb dX9_nth_17 rfl (lv_at hl 1 rfl) ?_
      refine lv_i2l hx hb dX9_nth_18 rfl ?_
      refine lv_aload_n hx hb dX9_nth_19 rfl (lv_at hl 0 rfl) ?_
      refine rg_M_behindSet hx hb hT hown hK hP w_817 dX9_nth_20 ?_
      refine lv_iconst (v := 0) hx hb dX9_nth_23 (by decide) ?_
      obtain ⟨hi24, h⟩ := gd_e h
      refine ra_b0 hx hb hK hP (ib_in hi24) dX9_nth_24 ?_
      refine W.lcmp hx hb dX9_nth_25 ?_
      refine lv_if_lt (tgt := 35) hx hb dX9_nth_26 (by decide) (fun c26 => ?_) (fun c26 => ?_)
      · replace h := if_t c26 h
        refine lv_aload_n hx hb dX9_nth_35 rfl (lv_at hl 0 rfl) ?_
        obtain ⟨r36, hc36, h⟩ := Option.bind_eq_some_iff.mp h
        refine rcV (As := []) (rest := []) ⟨hx, hb, hml, hown, hts⟩ (c_X9_stuckSet l X mi ml ma mb_14 hc36) ⟨w_1022, w_1024, w_26, w_58, w_1025⟩ hd_X9_stuckSet rfl rfl ⟨(Nat.le_of_ble_eq_true rfl), (Nat.le_of_ble_eq_true rfl)⟩ ⟨Nat.zero_le _, Nat.zero_le _⟩ mPre_blind (va_recv hK hP (ci := 5) rfl cM_o) (mPre_call hP hK hN) rfl rfl hl.1 (Nat.le_of_ble_eq_true rfl) dX9_nth_36 ?_
        obtain ⟨r39, hc39, h⟩ := Option.bind_eq_some_iff.mp h
        refine rcS (As := [.int r36]) (rest := []) ⟨hx, hb, hml, hown, hts⟩ (c_X9_bits l r36 hc39) ⟨w_1030, w_1031, w_58, w_1032⟩ hd_X9_bits rfl rfl ⟨(Nat.le_of_ble_eq_true rfl), (Nat.le_of_ble_eq_true rfl)⟩ ⟨Nat.zero_le _, Nat.zero_le _⟩ (fun _ _ _ _ h => h) (fun _ _ _ => trivial) rfl rfl hl.1 (Nat.le_of_ble_eq_true rfl) dX9_nth_39 ?_
        refine lv_istore_n (lv' := [(3, .int r39), (0, .ref (xB X 0)), (1, .int a1), (2, .int a2)]) hx hb dX9_nth_42 rfl hl (by decide) rfl (fun ls hl => ?_)
        refine lv_aload_n hx hb dX9_nth_43 rfl (lv_at hl 1 rfl) ?_
        refine lv_iload_n hx hb dX9_nth_44 rfl (lv_at hl 3 rfl) ?_
        refine lv_iload_n hx hb dX9_nth_45 rfl (lv_at hl 0 rfl) ?_
        obtain ⟨r46, mi_46, ma_46, hc46, h⟩ := bd3_e h
        refine wcV (As := [.int a2, .int r39]) (rest := []) ⟨hx, hb, hml, hown, hts⟩ (c_X9_row l X mi ml ma mb_14 a2 r39 hc46) ⟨w_1100, w_905, w_906, w_58, w_907⟩ hd_X9_row rfl rfl ⟨(Nat.le_of_ble_eq_true rfl), (Nat.le_of_ble_eq_true rfl)⟩ ⟨Nat.zero_le _, Nat.zero_le _⟩ mPre_blind (va_recv hK hP (ci := 5) rfl cM_o) (mPre_call hP hK hN) hS (fun _ h => h) rfl rfl hl.1 (Nat.le_of_ble_eq_true rfl) dX9_nth_46 (fun H locs hP _ hS => ?_)
        have hP : va_P X.1 vwCl (cM X mi_46 ml ma_46 mb_14) H := hP
        refine W.eq (g2 := F0 m 49 ls [.int r46]) rfl ?_
        refine lv_istore (lv' := [(4, .int r46), (3, .int r39), (0, .ref (xB X 0)), (1, .int a1), (2, .int a2)]) hx hb dX9_nth_49 hl (by decide) rfl (fun ls hl => ?_)
        refine lv_iload_n hx hb dX9_nth_51 rfl (lv_at hl 3 rfl) ?_
        refine lv_i2l hx hb dX9_nth_52 rfl ?_
        refine lv_lstore (lv' := [(5, .long a1.toInt64), (4, .int r46), (3, .int r39), (0, .ref (xB X 0)), (1, .int a1), (2, .int a2)]) hx hb dX9_nth_53 hl (by decide) rfl (fun ls hl => ?_)
        refine lv_iconst (v := 0) hx hb dX9_nth_55 (by decide) ?_
        refine lv_istore (lv' := [(7, .int (0 : Int32)), (5, .long a1.toInt64), (4, .int r46), (3, .int r39), (0, .ref (xB X 0)), (1, .int a1), (2, .int a2)]) hx hb dX9_nth_56 hl (by decide) rfl (fun ls hl => ?_)
        refine lv_iconst (v := 0) hx hb dX9_nth_58 (by decide) ?_
        refine lv_istore (lv' := [(8, .int (0 : Int32)), (7, .int (0 : Int32)), (5, .long a1.toInt64), (4, .int r46), (3, .int r39), (0, .ref (xB X 0)), (1, .int a1), (2, .int a2)]) hx hb dX9_nth_59 hl (by decide) rfl (fun ls hl => ?_)
        exact hL61 500 a2 r39 a1.toInt64 (0 : Int32) (0 : Int32) mi_46 ma_46 mb_14 _ _ ls (lv_sub hl [5, 7, 4, 2, 1, 0] rfl) hP hS h
      · replace h := if_f c26 h
        refine lv_aload_n hx hb dX9_nth_29 rfl (lv_at hl 0 rfl) ?_
        refine lv_iconst (v := 4) hx hb dX9_nth_30 (by decide) ?_
        obtain ⟨r31, mi_31, ma_31, hc31, h⟩ := bd3_e h
        refine wcV (As := [.int (4 : Int32)]) (rest := []) ⟨hx, hb, hml, hown, hts⟩ (c_X9_finds l X mi ml ma mb_14 (4 : Int32) hc31) ⟨w_915, w_917, w_12, w_58, w_918⟩ hd_X9_finds rfl rfl ⟨(Nat.le_of_ble_eq_true rfl), (Nat.le_of_ble_eq_true rfl)⟩ ⟨Nat.zero_le _, Nat.zero_le _⟩ mPre_blind (va_recv hK hP (ci := 5) rfl cM_o) (mPre_call hP hK hN) hS (fun _ h => h) rfl rfl hl.1 (Nat.le_of_ble_eq_true rfl) dX9_nth_31 (fun H locs hP _ hS => ?_)
        have hP : va_P X.1 vwCl (cM X mi_31 ml ma_31 mb_14) H := hP
        refine W.eq (g2 := F0 m 34 ls [.int r31]) rfl ?_
        cases h
        exact W.iret hx hb hr (fun t ht _ => ⟨rfl, by rw [ht]; exact hP, hS.F ht⟩) hS.2.2 dX9_nth_34
    · replace h := if_t c8 h
      refine lv_iconst (v := -1) hx hb dX9_nth_11 (by decide) ?_
      cases h
      exact W.iret hx hb hr (fun t ht _ => ⟨rfl, by rw [ht]; exact hP, hS.F ht⟩) hS.2.2 dX9_nth_12
set_option maxRecDepth 100000 in
set_option maxHeartbeats 4000000 in
theorem c_X9_deal (l : Launch) (X : gX) (mi : Nat → Int32) (ml : Nat → Int64) (ma : Nat → Nat → Int32) (mb : Nat → Nat → Int64) (a1 : Int32) (a2 : Int32) {o_ma : Nat → Nat → Int32} (h : X9_deal mi a1 a2 ma = some o_ma) : Met l yX9_deal (Cond.code yX9_deal cX9_deal 6 none :: gT) { frames := 1, cells := 0, slots := 0, locals := 22 } (va_Pc [.ref (xB X 0), .int a1, .int a2] (mPre X mi ml ma mb)) (wQ none (fun H => va_P X.1 vwCl (cM X mi ml o_ma mb) H) (mA X)) 0 0 (mA X) := by
  refine Met.ofW (cc := cX9_deal) (maxL := 6) (ret := none) (by decide) rfl ?_
  intro p e s m args below meth c s₁ B hml hv
  obtain ⟨rfl, hP, hK, hN⟩ := hv
  have hx := B.exec
  have hb := B.bytes
  have hr := B.returns
  have hts := atoms_spec (ws := (Cond.code yX9_deal cX9_deal 6 none :: gT)) B.pre
  have hT : ∀ w ∈ gT, w.before _ s = true := fun w hw => hts w (List.mem_cons_of_mem _ hw)
  have hown : s.vm.findClass RX9 = some m.cls := findClass_of_methodNamed B.named
  have hlocks := B.notSynchronized
  have hS : va_S (mA X) s.heap s.heap [] := va_S.rf
  have hl := lv_entry ([.ref (xB X 0), .int a1, .int a2]) (n := 6) (Nat.le_of_ble_eq_true rfl)
  rw [lg_entry_eq]
  generalize (lg_sl ([.ref (xB X 0), .int a1, .int a2]) ++ List.replicate (6 - (lg_sl ([.ref (xB X 0), .int a1, .int a2])).length) Slot.unset).toArray = ls at hl ⊢
  have hl : lv_has ls 6 [(0, .ref (xB X 0)), (1, .int a1), (2, .int a2)] := hl
  have hL11 : ∀ (n11 : Nat) (v1 : Int32) (v2 : Int32) (v3 : Int32) (v4 : Int32) (v5 : Int32) (ma : Nat → Nat → Int32) (H : Heap) (locs : List Loc) (ls : Array Slot), lv_has ls 6 [(0, .ref (xB X 0)), (1, .int v1), (2, .int v2), (3, .int v3), (4, .int v4), (5, .int v5)] → va_P X.1 vwCl (cM X mi ml ma mb) H → va_S (mA X) s.heap H locs → X9_deal_11 mi n11 v1 v2 v3 v4 v5 ma = some o_ma → W p l e (headSpec (Cond.code yX9_deal cX9_deal 6 none :: gT) { frames := 1, cells := 0, slots := 0, locals := 22 }).room s m [.ref (xB X 0), .int a1, .int a2].toArray below meth c H locs 0 0 (MQ below (wQ none (fun H => va_P X.1 vwCl (cM X mi ml o_ma mb) H) (mA X)) [.ref (xB X 0), .int a1, .int a2].toArray s 0 0 (mA X)) (F0 m 11 ls []) := by
    intro n11
    induction n11 with
    | zero =>
      intro v1 v2 v3 v4 v5 ma H locs ls hl hP hS h
      rw [X9_deal_11] at h
      cases h
    | succ n11 ih11 =>
      intro v1 v2 v3 v4 v5 ma H locs ls hl hP hS h
      rw [X9_deal_11] at h
      refine lv_iload hx hb dX9_deal_11 (lv_at hl 5 rfl) ?_
      refine lv_aload_n hx hb dX9_deal_13 rfl (lv_at hl 0 rfl) ?_
      refine rg_M_people hx hb hT hown hK hP w_779 dX9_deal_14 ?_
      refine lv_icmp_ge (tgt := 62) hx hb dX9_deal_17 (by decide) (fun c17 => ?_) (fun c17 => ?_)
      · replace h := if_t c17 h
        cases h
        exact W.vret hx hb hr (fun t ht _ => ⟨rfl, by rw [ht]; exact hP, hS.F ht⟩) hS.2.2 dX9_deal_62
      · replace h := if_f c17 h
        refine lv_iload_n hx hb dX9_deal_20 rfl (lv_at hl 2 rfl) ?_
        refine lv_iload hx hb dX9_deal_21 (lv_at hl 5 rfl) ?_
        obtain ⟨r23, hc23, h⟩ := Option.bind_eq_some_iff.mp h
        refine rcS (As := [.int v2, .int v5]) (rest := []) ⟨hx, hb, hml, hown, hts⟩ (c_X9_has l v2 v5 hc23) ⟨w_1104, w_1105, w_58, w_1106⟩ hd_X9_has rfl rfl ⟨(Nat.le_of_ble_eq_true rfl), (Nat.le_of_ble_eq_true rfl)⟩ ⟨Nat.zero_le _, Nat.zero_le _⟩ (fun _ _ _ _ h => h) (fun _ _ _ => trivial) rfl rfl hl.1 (Nat.le_of_ble_eq_true rfl) dX9_deal_23 ?_
        refine lv_if_eq (tgt := 56) hx hb dX9_deal_26 (by decide) (fun c26 => ?_) (fun c26 => ?_)
        · replace h := if_t c26 h
          refine lv_iinc (v := (v5 + (1 : Int32))) (lv' := [(5, .int (v5 + (1 : Int32))), (0, .ref (xB X 0)), (1, .int v1), (2, .int v2), (3, .int v3), (4, .int v4)]) hx hb dX9_deal_56 hl (k := 5) rfl rfl (by decide) rfl (fun ls hl => ?_)
          refine lv_goto (tgt := 11) hx hb dX9_deal_59 (by decide) ?_
          exact ih11 v1 v2 v3 v4 (v5 + (1 : Int32)) ma _ _ ls (lv_sub hl [1, 2, 3, 4, 5, 0] rfl) hP hS h
        · replace h := if_f c26 h
          refine lv_aload_n hx hb dX9_deal_29 rfl (lv_at hl 0 rfl) ?_
          refine rg_M_given hx hb hT hown hK hP w_819 dX9_deal_30 ?_
          refine lv_iload hx hb dX9_deal_33 (lv_at hl 5 rfl) ?_
          refine lv_iload_n hx hb dX9_deal_35 rfl (lv_at hl 1 rfl) ?_
          refine lv_iload_n hx hb dX9_deal_36 rfl (lv_at hl 3 rfl) ?_
          obtain ⟨hne37, h⟩ := gn_e h
          refine lv_idiv hx hb dX9_deal_37 hne37 ?_
          refine lv_iload hx hb dX9_deal_38 (lv_at hl 4 rfl) ?_
          refine lv_iload_n hx hb dX9_deal_40 rfl (lv_at hl 1 rfl) ?_
          refine lv_iload_n hx hb dX9_deal_41 rfl (lv_at hl 3 rfl) ?_
          obtain ⟨hne42, h⟩ := gn_e h
          refine lv_irem hx hb dX9_deal_42 hne42 ?_
          refine lv_icmp_ge (tgt := 50) hx hb dX9_deal_43 (by decide) (fun c43 => ?_) (fun c43 => ?_)
          · replace h := if_t c43 h
            refine lv_iconst (v := 0) hx hb dX9_deal_50 (by decide) ?_
            refine lv_iadd hx hb dX9_deal_51 ?_
            obtain ⟨hi52, h⟩ := gd_e h
            refine rs_m28 hx hb hK hP hN hS (ib_in hi52) dX9_deal_52 (fun H locs hP hS => ?_)
            generalize ema_52 : va_up ma 28 (upd (ma 28) v5.toNatClampNeg ((v1 / v3) + (0 : Int32))) = ma_52 at hP
            replace h := lt_g h ema_52
            refine lv_iinc (v := (v4 + (1 : Int32))) (lv' := [(4, .int (v4 + (1 : Int32))), (0, .ref (xB X 0)), (1, .int v1), (2, .int v2), (3, .int v3), (5, .int v5)]) hx hb dX9_deal_53 hl (k := 4) rfl rfl (by decide) rfl (fun ls hl => ?_)
            refine lv_iinc (v := (v5 + (1 : Int32))) (lv' := [(5, .int (v5 + (1 : Int32))), (4, .int (v4 + (1 : Int32))), (0, .ref (xB X 0)), (1, .int v1), (2, .int v2), (3, .int v3)]) hx hb dX9_deal_56 hl (k := 5) rfl rfl (by decide) rfl (fun ls hl => ?_)
            refine lv_goto (tgt := 11) hx hb dX9_deal_59 (by decide) ?_
            exact ih11 v1 v2 v3 (v4 + (1 : Int32)) (v5 + (1 : Int32)) ma_52 _ _ ls (lv_sub hl [2, 3, 4, 5, 1, 0] rfl) hP hS h
          · replace h := if_f c43 h
            refine lv_iconst (v := 1) hx hb dX9_deal_46 (by decide) ?_
            refine lv_goto (tgt := 51) hx hb dX9_deal_47 (by decide) ?_
            refine lv_iadd hx hb dX9_deal_51 ?_
            obtain ⟨hi52, h⟩ := gd_e h
            refine rs_m28 hx hb hK hP hN hS (ib_in hi52) dX9_deal_52 (fun H locs hP hS => ?_)
            generalize ema_52 : va_up ma 28 (upd (ma 28) v5.toNatClampNeg ((v1 / v3) + (1 : Int32))) = ma_52 at hP
            replace h := lt_g h ema_52
            refine lv_iinc (v := (v4 + (1 : Int32))) (lv' := [(4, .int (v4 + (1 : Int32))), (0, .ref (xB X 0)), (1, .int v1), (2, .int v2), (3, .int v3), (5, .int v5)]) hx hb dX9_deal_53 hl (k := 4) rfl rfl (by decide) rfl (fun ls hl => ?_)
            refine lv_iinc (v := (v5 + (1 : Int32))) (lv' := [(5, .int (v5 + (1 : Int32))), (4, .int (v4 + (1 : Int32))), (0, .ref (xB X 0)), (1, .int v1), (2, .int v2), (3, .int v3)]) hx hb dX9_deal_56 hl (k := 5) rfl rfl (by decide) rfl (fun ls hl => ?_)
            refine lv_goto (tgt := 11) hx hb dX9_deal_59 (by decide) ?_
            exact ih11 v1 v2 v3 (v4 + (1 : Int32)) (v5 + (1 : Int32)) ma_52 _ _ ls (lv_sub hl [2, 3, 4, 5, 1, 0] rfl) hP hS h
  rw [X9_deal] at h
  refine lv_iload_n hx hb dX9_deal_0 rfl (lv_at hl 2 rfl) ?_
  obtain ⟨r1, hc1, h⟩ := Option.bind_eq_some_iff.mp h
  refine rcS (As := [.int a2]) (rest := []) ⟨hx, hb, hml, hown, hts⟩ (c_X9_bits l a2 hc1) ⟨w_1030, w_1031, w_58, w_1032⟩ hd_X9_bits rfl rfl ⟨(Nat.le_of_ble_eq_true rfl), (Nat.le_of_ble_eq_true rfl)⟩ ⟨Nat.zero_le _, Nat.zero_le _⟩ (fun _ _ _ _ h => h) (fun _ _ _ => trivial) rfl rfl hl.1 (Nat.le_of_ble_eq_true rfl) dX9_deal_1 ?_
  refine lv_istore_n (lv' := [(3, .int r1), (0, .ref (xB X 0)), (1, .int a1), (2, .int a2)]) hx hb dX9_deal_4 rfl hl (by decide) rfl (fun ls hl => ?_)
  refine lv_iconst (v := 0) hx hb dX9_deal_5 (by decide) ?_
  refine lv_istore (lv' := [(4, .int (0 : Int32)), (3, .int r1), (0, .ref (xB X 0)), (1, .int a1), (2, .int a2)]) hx hb dX9_deal_6 hl (by decide) rfl (fun ls hl => ?_)
  refine lv_iconst (v := 0) hx hb dX9_deal_8 (by decide) ?_
  refine lv_istore (lv' := [(5, .int (0 : Int32)), (4, .int (0 : Int32)), (3, .int r1), (0, .ref (xB X 0)), (1, .int a1), (2, .int a2)]) hx hb dX9_deal_9 hl (by decide) rfl (fun ls hl => ?_)
  exact hL11 500 a1 a2 r1 (0 : Int32) (0 : Int32) ma _ _ ls (lv_sub hl [3, 4, 5, 2, 1, 0] rfl) hP hS h
set_option maxRecDepth 100000 in
set_option maxHeartbeats 4000000 in
theorem c_X9_gold (l : Launch) (X : gX) (mi : Nat → Int32) (ml : Nat → Int64) (ma : Nat → Nat → Int32) (mb : Nat → Nat → Int64) (a1 : Int32) (a2 : Int32) {o0 : Int32} {o_mi : Nat → Int32} {o_ma : Nat → Nat → Int32} (h : X9_gold a1 a2 mi ma = some (o0, o_mi, o_ma)) : Met l yX9_gold (Cond.code yX9_gold cX9_gold 7 (some .int) :: gT) { frames := 3, cells := 0, slots := 0, locals := 68 } (va_Pc [.ref (xB X 0), .int a1, .int a2] (mPre X mi ml ma mb)) (wQ (some (.int o0)) (fun H => va_P X.1 vwCl (cM X o_mi ml o_ma mb) H) (mA X)) 0 0 (mA X) := by
  refine Met.ofW (cc := cX9_gold) (maxL := 7) (ret := (some .int)) (by decide) rfl ?_
  intro p e s m args below meth c s₁ B hml hv
  obtain ⟨rfl, hP, hK, hN⟩ := hv
  have hx := B.exec
  have hb := B.bytes
  have hr := B.returns
  have hts := atoms_spec (ws := (Cond.code yX9_gold cX9_gold 7 (some .int) :: gT)) B.pre
  have hT : ∀ w ∈ gT, w.before _ s = true := fun w hw => hts w (List.mem_cons_of_mem _ hw)
  have hown : s.vm.findClass RX9 = some m.cls := findClass_of_methodNamed B.named
  have hlocks := B.notSynchronized
  have hS : va_S (mA X) s.heap s.heap [] := va_S.rf
  have hl := lv_entry ([.ref (xB X 0), .int a1, .int a2]) (n := 7) (Nat.le_of_ble_eq_true rfl)
  rw [lg_entry_eq]
  generalize (lg_sl ([.ref (xB X 0), .int a1, .int a2]) ++ List.replicate (7 - (lg_sl ([.ref (xB X 0), .int a1, .int a2])).length) Slot.unset).toArray = ls at hl ⊢
  have hl : lv_has ls 7 [(0, .ref (xB X 0)), (1, .int a1), (2, .int a2)] := hl
  have hL162 : ∀ (n162 : Nat) (v1 : Int32) (v2 : Int32) (v4 : Int32) (mi : Nat → Int32) (ma : Nat → Nat → Int32) (H : Heap) (locs : List Loc) (ls : Array Slot), lv_has ls 7 [(0, .ref (xB X 0)), (1, .int v1), (2, .int v2), (4, .int v4)] → va_P X.1 vwCl (cM X mi ml ma mb) H → va_S (mA X) s.heap H locs → X9_gold_162 n162 v1 v2 v4 mi ma = some (o0, o_mi, o_ma) → W p l e (headSpec (Cond.code yX9_gold cX9_gold 7 (some .int) :: gT) { frames := 3, cells := 0, slots := 0, locals := 68 }).room s m [.ref (xB X 0), .int a1, .int a2].toArray below meth c H locs 0 0 (MQ below (wQ (some (.int o0)) (fun H => va_P X.1 vwCl (cM X o_mi ml o_ma mb) H) (mA X)) [.ref (xB X 0), .int a1, .int a2].toArray s 0 0 (mA X)) (F0 m 162 ls []) := by
    intro n162
    induction n162 with
    | zero =>
      intro v1 v2 v4 mi ma H locs ls hl hP hS h
      rw [X9_gold_162] at h
      cases h
    | succ n162 ih162 =>
      intro v1 v2 v4 mi ma H locs ls hl hP hS h
      rw [X9_gold_162] at h
      refine lv_iload hx hb dX9_gold_162 (lv_at hl 3 rfl) ?_
      refine lv_aload_n hx hb dX9_gold_164 rfl (lv_at hl 0 rfl) ?_
      refine rg_M_people hx hb hT hown hK hP w_779 dX9_gold_165 ?_
      refine lv_icmp_ge (tgt := 196) hx hb dX9_gold_168 (by decide) (fun c168 => ?_) (fun c168 => ?_)
      · replace h := if_t c168 h
        refine lv_aload_n hx hb dX9_gold_196 rfl (lv_at hl 0 rfl) ?_
        refine lv_bipush (v := 9) hx hb dX9_gold_197 (by decide) ?_
        obtain ⟨r199, hc199, h⟩ := Option.bind_eq_some_iff.mp h
        refine rcV (As := [.int (9 : Int32)]) (rest := []) ⟨hx, hb, hml, hown, hts⟩ (c_X9_hangSet l X mi ml ma mb (9 : Int32) hc199) ⟨w_1092, w_1094, w_34, w_58, w_1095⟩ hd_X9_hangSet rfl rfl ⟨(Nat.le_of_ble_eq_true rfl), (Nat.le_of_ble_eq_true rfl)⟩ ⟨Nat.zero_le _, Nat.zero_le _⟩ mPre_blind (va_recv hK hP (ci := 5) rfl cM_o) (mPre_call hP hK hN) rfl rfl hl.1 (Nat.le_of_ble_eq_true rfl) dX9_gold_199 ?_
        refine lv_if_ne (tgt := 209) hx hb dX9_gold_202 (by decide) (fun c202 => ?_) (fun c202 => ?_)
        · replace h := if_f c202 h
          refine lv_iconst (v := 0) hx hb dX9_gold_209 (by decide) ?_
          cases h
          exact W.iret hx hb hr (fun t ht _ => ⟨rfl, by rw [ht]; exact hP, hS.F ht⟩) hS.2.2 dX9_gold_210
        · replace h := if_t c202 h
          refine lv_iload_n hx hb dX9_gold_205 rfl (lv_at hl 1 rfl) ?_
          refine lv_goto (tgt := 210) hx hb dX9_gold_206 (by decide) ?_
          cases h
          exact W.iret hx hb hr (fun t ht _ => ⟨rfl, by rw [ht]; exact hP, hS.F ht⟩) hS.2.2 dX9_gold_210
      · replace h := if_f c168 h
        refine lv_aload_n hx hb dX9_gold_171 rfl (lv_at hl 0 rfl) ?_
        refine rg_M_rows hx hb hT hown hK hP w_797 dX9_gold_172 ?_
        refine lv_bipush (v := 40) hx hb dX9_gold_175 (by decide) ?_
        refine lv_iload_n hx hb dX9_gold_177 rfl (lv_at hl 2 rfl) ?_
        refine lv_imul hx hb dX9_gold_178 ?_
        refine lv_iload hx hb dX9_gold_179 (lv_at hl 3 rfl) ?_
        refine lv_iadd hx hb dX9_gold_181 ?_
        refine lv_aload_n hx hb dX9_gold_182 rfl (lv_at hl 0 rfl) ?_
        refine rg_M_given hx hb hT hown hK hP w_819 dX9_gold_183 ?_
        refine lv_iload hx hb dX9_gold_186 (lv_at hl 3 rfl) ?_
        obtain ⟨hi188, h⟩ := gd_e h
        refine ra_m28 hx hb hK hP (ib_in hi188) dX9_gold_188 ?_
        obtain ⟨hi189, h⟩ := gd_e h
        refine rs_m11 hx hb hK hP hN hS (ib_in hi189) dX9_gold_189 (fun H locs hP hS => ?_)
        generalize ema_189 : va_up ma 11 (upd (ma 11) (((40 : Int32) * v2) + v4).toNatClampNeg (ma 28 v4.toNatClampNeg)) = ma_189 at hP
        replace h := lt_g h ema_189
        refine lv_iinc (v := (v4 + (1 : Int32))) (lv' := [(4, .int (v4 + (1 : Int32))), (0, .ref (xB X 0)), (1, .int v1), (2, .int v2)]) hx hb dX9_gold_190 hl (k := 3) rfl rfl (by decide) rfl (fun ls hl => ?_)
        refine lv_goto (tgt := 162) hx hb dX9_gold_193 (by decide) ?_
        exact ih162 v1 v2 (v4 + (1 : Int32)) mi ma_189 _ _ ls (lv_sub hl [1, 2, 3, 0] rfl) hP hS h
  have hL71 : ∀ (n71 : Nat) (v1 : Int32) (v2 : Int32) (v4 : Int32) (mi : Nat → Int32) (ma : Nat → Nat → Int32) (H : Heap) (locs : List Loc) (ls : Array Slot), lv_has ls 7 [(0, .ref (xB X 0)), (1, .int v1), (2, .int v2), (4, .int v4)] → va_P X.1 vwCl (cM X mi ml ma mb) H → va_S (mA X) s.heap H locs → X9_gold_71 n71 v1 v2 v4 mi ma = some (o0, o_mi, o_ma) → W p l e (headSpec (Cond.code yX9_gold cX9_gold 7 (some .int) :: gT) { frames := 3, cells := 0, slots := 0, locals := 68 }).room s m [.ref (xB X 0), .int a1, .int a2].toArray below meth c H locs 0 0 (MQ below (wQ (some (.int o0)) (fun H => va_P X.1 vwCl (cM X o_mi ml o_ma mb) H) (mA X)) [.ref (xB X 0), .int a1, .int a2].toArray s 0 0 (mA X)) (F0 m 71 ls []) := by
    intro n71
    induction n71 with
    | zero =>
      intro v1 v2 v4 mi ma H locs ls hl hP hS h
      rw [X9_gold_71] at h
      cases h
    | succ n71 ih71 =>
      intro v1 v2 v4 mi ma H locs ls hl hP hS h
      rw [X9_gold_71] at h
      have hL81 : ∀ (n81 : Nat) (v1 : Int32) (v2 : Int32) (v4 : Int32) (v5 : Int32) (mi : Nat → Int32) (ma : Nat → Nat → Int32) (H : Heap) (locs : List Loc) (ls : Array Slot), lv_has ls 7 [(0, .ref (xB X 0)), (1, .int v1), (2, .int v2), (4, .int v4), (5, .int v5)] → va_P X.1 vwCl (cM X mi ml ma mb) H → va_S (mA X) s.heap H locs → X9_gold_81 (X9_gold_71 n71) n81 v1 v2 v4 v5 mi ma = some (o0, o_mi, o_ma) → W p l e (headSpec (Cond.code yX9_gold cX9_gold 7 (some .int) :: gT) { frames := 3, cells := 0, slots := 0, locals := 68 }).room s m [.ref (xB X 0), .int a1, .int a2].toArray below meth c H locs 0 0 (MQ below (wQ (some (.int o0)) (fun H => va_P X.1 vwCl (cM X o_mi ml o_ma mb) H) (mA X)) [.ref (xB X 0), .int a1, .int a2].toArray s 0 0 (mA X)) (F0 m 81 ls []) := by
        intro n81
        induction n81 with
        | zero =>
          intro v1 v2 v4 v5 mi ma H locs ls hl hP hS h
          rw [X9_gold_81] at h
          cases h
        | succ n81 ih81 =>
          intro v1 v2 v4 v5 mi ma H locs ls hl hP hS h
          rw [X9_gold_81] at h
          refine lv_iload hx hb dX9_gold_81 (lv_at hl 4 rfl) ?_
          refine lv_aload_n hx hb dX9_gold_83 rfl (lv_at hl 0 rfl) ?_
          refine rg_M_people hx hb hT hown hK hP w_779 dX9_gold_84 ?_
          refine lv_icmp_ge (tgt := 153) hx hb dX9_gold_87 (by decide) (fun c87 => ?_) (fun c87 => ?_)
          · replace h := if_t c87 h
            refine lv_iinc (v := (v4 + (1 : Int32))) (lv' := [(4, .int (v4 + (1 : Int32))), (0, .ref (xB X 0)), (1, .int v1), (2, .int v2), (5, .int v5)]) hx hb dX9_gold_153 hl (k := 3) rfl rfl (by decide) rfl (fun ls hl => ?_)
            refine lv_goto (tgt := 71) hx hb dX9_gold_156 (by decide) ?_
            exact ih71 v1 v2 (v4 + (1 : Int32)) mi ma _ _ ls (lv_sub hl [1, 2, 3, 0] rfl) hP hS h
          · replace h := if_f c87 h
            refine lv_aload_n hx hb dX9_gold_90 rfl (lv_at hl 0 rfl) ?_
            refine lv_iload hx hb dX9_gold_91 (lv_at hl 4 rfl) ?_
            obtain ⟨r93, hc93, h⟩ := Option.bind_eq_some_iff.mp h
            refine rcV (As := [.int v5]) (rest := []) ⟨hx, hb, hml, hown, hts⟩ (c_X9_hangSet l X mi ml ma mb v5 hc93) ⟨w_1092, w_1094, w_34, w_58, w_1095⟩ hd_X9_hangSet rfl rfl ⟨(Nat.le_of_ble_eq_true rfl), (Nat.le_of_ble_eq_true rfl)⟩ ⟨Nat.zero_le _, Nat.zero_le _⟩ mPre_blind (va_recv hK hP (ci := 5) rfl cM_o) (mPre_call hP hK hN) rfl rfl hl.1 (Nat.le_of_ble_eq_true rfl) dX9_gold_93 ?_
            refine lv_istore (lv' := [(6, .int r93), (0, .ref (xB X 0)), (1, .int v1), (2, .int v2), (4, .int v4), (5, .int v5)]) hx hb dX9_gold_96 hl (by decide) rfl (fun ls hl => ?_)
            refine lv_aload_n hx hb dX9_gold_98 rfl (lv_at hl 1 rfl) ?_
            refine lv_iload hx hb dX9_gold_99 (lv_at hl 5 rfl) ?_
            obtain ⟨r101, hc101, h⟩ := Option.bind_eq_some_iff.mp h
            refine rcV (As := [.int v5]) (rest := []) ⟨hx, hb, hml, hown, hts⟩ (c_X9_depthOf l X mi ml ma mb v5 hc101) ⟨w_998, w_1000, w_21, w_58, w_1001⟩ hd_X9_depthOf rfl rfl ⟨(Nat.le_of_ble_eq_true rfl), (Nat.le_of_ble_eq_true rfl)⟩ ⟨Nat.zero_le _, Nat.zero_le _⟩ mPre_blind (va_recv hK hP (ci := 5) rfl cM_o) (mPre_call hP hK hN) rfl rfl hl.1 (Nat.le_of_ble_eq_true rfl) dX9_gold_101 ?_
            refine lv_iload hx hb dX9_gold_104 (lv_at hl 4 rfl) ?_
            refine lv_icmp_ne (tgt := 147) hx hb dX9_gold_106 (by decide) (fun c106 => ?_) (fun c106 => ?_)
            · replace h := if_f c106 h
              refine lv_iinc (v := (v5 + (1 : Int32))) (lv' := [(5, .int (v5 + (1 : Int32))), (6, .int r93), (0, .ref (xB X 0)), (1, .int v1), (2, .int v2), (4, .int v4)]) hx hb dX9_gold_147 hl (k := 5) rfl rfl (by decide) rfl (fun ls hl => ?_)
              refine lv_goto (tgt := 81) hx hb dX9_gold_150 (by decide) ?_
              exact ih81 v1 v2 v4 (v5 + (1 : Int32)) mi ma _ _ ls (lv_sub hl [2, 3, 4, 5, 0] rfl) hP hS h
            · replace h := if_t c106 h
              refine lv_iload hx hb dX9_gold_109 (lv_at hl 0 rfl) ?_
              refine lv_if_eq (tgt := 147) hx hb dX9_gold_111 (by decide) (fun c111 => ?_) (fun c111 => ?_)
              · replace h := if_t c111 h
                refine lv_iinc (v := (v5 + (1 : Int32))) (lv' := [(5, .int (v5 + (1 : Int32))), (6, .int r93), (0, .ref (xB X 0)), (1, .int v1), (2, .int v2), (4, .int v4)]) hx hb dX9_gold_147 hl (k := 5) rfl rfl (by decide) rfl (fun ls hl => ?_)
                refine lv_goto (tgt := 81) hx hb dX9_gold_150 (by decide) ?_
                exact ih81 v1 v2 v4 (v5 + (1 : Int32)) mi ma _ _ ls (lv_sub hl [2, 3, 4, 5, 0] rfl) hP hS h
              · replace h := if_f c111 h
                refine lv_aload_n hx hb dX9_gold_114 rfl (lv_at hl 1 rfl) ?_
                refine rg_M_given hx hb hT hown hK hP w_819 dX9_gold_115 ?_
                refine lv_iload hx hb dX9_gold_118 (lv_at hl 5 rfl) ?_
                obtain ⟨hi120, h⟩ := gd_e h
                refine ra_m28 hx hb hK hP (ib_in hi120) dX9_gold_120 ?_
                refine lv_if_le (tgt := 147) hx hb dX9_gold_121 (by decide) (fun c121 => ?_) (fun c121 => ?_)
                · replace h := if_t c121 h
                  refine lv_iinc (v := (v5 + (1 : Int32))) (lv' := [(5, .int (v5 + (1 : Int32))), (6, .int r93), (0, .ref (xB X 0)), (1, .int v1), (2, .int v2), (4, .int v4)]) hx hb dX9_gold_147 hl (k := 5) rfl rfl (by decide) rfl (fun ls hl => ?_)
                  refine lv_goto (tgt := 81) hx hb dX9_gold_150 (by decide) ?_
                  exact ih81 v1 v2 v4 (v5 + (1 : Int32)) mi ma _ _ ls (lv_sub hl [2, 3, 4, 5, 0] rfl) hP hS h
                · replace h := if_f c121 h
                  refine lv_aload_n hx hb dX9_gold_124 rfl (lv_at hl 1 rfl) ?_
                  refine lv_aload_n hx hb dX9_gold_125 rfl (lv_at hl 1 rfl) ?_
                  refine rg_M_given hx hb hT hown hK hP w_819 dX9_gold_126 ?_
                  refine lv_iload hx hb dX9_gold_129 (lv_at hl 5 rfl) ?_
                  obtain ⟨hi131, h⟩ := gd_e h
                  refine ra_m28 hx hb hK hP (ib_in hi131) dX9_gold_131 ?_
                  refine lv_iconst (v := 1) hx hb dX9_gold_132 (by decide) ?_
                  refine lv_isub hx hb dX9_gold_133 ?_
                  refine lv_iload hx hb dX9_gold_134 (lv_at hl 0 rfl) ?_
                  obtain ⟨ma_136, hc136, h⟩ := Option.bind_eq_some_iff.mp h
                  refine wcV (As := [.int ((ma 28 v5.toNatClampNeg) - (1 : Int32)), .int r93]) (rest := []) ⟨hx, hb, hml, hown, hts⟩ (c_X9_deal l X mi ml ma mb ((ma 28 v5.toNatClampNeg) - (1 : Int32)) r93 hc136) ⟨w_1225, w_1227, w_46, w_58, w_1228⟩ hd_X9_deal rfl rfl ⟨(Nat.le_of_ble_eq_true rfl), (Nat.le_of_ble_eq_true rfl)⟩ ⟨Nat.zero_le _, Nat.zero_le _⟩ mPre_blind (va_recv hK hP (ci := 5) rfl cM_o) (mPre_call hP hK hN) hS (fun _ h => h) rfl rfl hl.1 (Nat.le_of_ble_eq_true rfl) dX9_gold_136 (fun H locs hP _ hS => ?_)
                  have hP : va_P X.1 vwCl (cM X mi ml ma_136 mb) H := hP
                  refine W.eq (g2 := F0 m 139 ls []) rfl ?_
                  refine lv_aload_n hx hb dX9_gold_139 rfl (lv_at hl 1 rfl) ?_
                  refine rg_M_given hx hb hT hown hK hP w_819 dX9_gold_140 ?_
                  refine lv_iload hx hb dX9_gold_143 (lv_at hl 5 rfl) ?_
                  refine lv_iconst (v := 1) hx hb dX9_gold_145 (by decide) ?_
                  obtain ⟨hi146, h⟩ := gd_e h
                  refine rs_m28 hx hb hK hP hN hS (ib_in hi146) dX9_gold_146 (fun H locs hP hS => ?_)
                  generalize ema_146 : va_up ma_136 28 (upd (ma_136 28) v5.toNatClampNeg (1 : Int32)) = ma_146 at hP
                  replace h := lt_g h ema_146
                  refine lv_iinc (v := (v5 + (1 : Int32))) (lv' := [(5, .int (v5 + (1 : Int32))), (6, .int r93), (0, .ref (xB X 0)), (1, .int v1), (2, .int v2), (4, .int v4)]) hx hb dX9_gold_147 hl (k := 5) rfl rfl (by decide) rfl (fun ls hl => ?_)
                  refine lv_goto (tgt := 81) hx hb dX9_gold_150 (by decide) ?_
                  exact ih81 v1 v2 v4 (v5 + (1 : Int32)) mi ma_146 _ _ ls (lv_sub hl [2, 3, 4, 5, 0] rfl) hP hS h
      refine lv_iload hx hb dX9_gold_71 (lv_at hl 3 rfl) ?_
      refine lv_bipush (v := 8) hx hb dX9_gold_73 (by decide) ?_
      refine lv_icmp_ge (tgt := 159) hx hb dX9_gold_75 (by decide) (fun c75 => ?_) (fun c75 => ?_)
      · replace h := if_t c75 h
        refine lv_iconst (v := 0) hx hb dX9_gold_159 (by decide) ?_
        refine lv_istore (lv' := [(4, .int (0 : Int32)), (0, .ref (xB X 0)), (1, .int v1), (2, .int v2)]) hx hb dX9_gold_160 hl (by decide) rfl (fun ls hl => ?_)
        exact hL162 500 v1 v2 (0 : Int32) mi ma _ _ ls (lv_sub hl [1, 2, 3, 0] rfl) hP hS h
      · replace h := if_f c75 h
        refine lv_iconst (v := 0) hx hb dX9_gold_78 (by decide) ?_
        refine lv_istore (lv' := [(5, .int (0 : Int32)), (0, .ref (xB X 0)), (1, .int v1), (2, .int v2), (4, .int v4)]) hx hb dX9_gold_79 hl (by decide) rfl (fun ls hl => ?_)
        exact hL81 500 v1 v2 v4 (0 : Int32) mi ma _ _ ls (lv_sub hl [1, 2, 3, 4, 0] rfl) hP hS h
  have hL34 : ∀ (n34 : Nat) (v1 : Int32) (v2 : Int32) (v4 : Int32) (mi : Nat → Int32) (ma : Nat → Nat → Int32) (H : Heap) (locs : List Loc) (ls : Array Slot), lv_has ls 7 [(0, .ref (xB X 0)), (1, .int v1), (2, .int v2), (4, .int v4)] → va_P X.1 vwCl (cM X mi ml ma mb) H → va_S (mA X) s.heap H locs → X9_gold_34 n34 v1 v2 v4 mi ma = some (o0, o_mi, o_ma) → W p l e (headSpec (Cond.code yX9_gold cX9_gold 7 (some .int) :: gT) { frames := 3, cells := 0, slots := 0, locals := 68 }).room s m [.ref (xB X 0), .int a1, .int a2].toArray below meth c H locs 0 0 (MQ below (wQ (some (.int o0)) (fun H => va_P X.1 vwCl (cM X o_mi ml o_ma mb) H) (mA X)) [.ref (xB X 0), .int a1, .int a2].toArray s 0 0 (mA X)) (F0 m 34 ls []) := by
    intro n34
    induction n34 with
    | zero =>
      intro v1 v2 v4 mi ma H locs ls hl hP hS h
      rw [X9_gold_34] at h
      cases h
    | succ n34 ih34 =>
      intro v1 v2 v4 mi ma H locs ls hl hP hS h
      rw [X9_gold_34] at h
      refine lv_iload hx hb dX9_gold_34 (lv_at hl 3 rfl) ?_
      refine lv_aload_n hx hb dX9_gold_36 rfl (lv_at hl 0 rfl) ?_
      refine rg_M_people hx hb hT hown hK hP w_779 dX9_gold_37 ?_
      refine lv_icmp_ge (tgt := 57) hx hb dX9_gold_40 (by decide) (fun c40 => ?_) (fun c40 => ?_)
      · replace h := if_t c40 h
        refine lv_aload_n hx hb dX9_gold_57 rfl (lv_at hl 0 rfl) ?_
        refine lv_iload_n hx hb dX9_gold_58 rfl (lv_at hl 1 rfl) ?_
        refine lv_aload_n hx hb dX9_gold_59 rfl (lv_at hl 0 rfl) ?_
        refine lv_bipush (v := 9) hx hb dX9_gold_60 (by decide) ?_
        obtain ⟨r62, hc62, h⟩ := Option.bind_eq_some_iff.mp h
        refine rcV (As := [.int (9 : Int32)]) (rest := [.int v1, .ref (xB X 0)]) ⟨hx, hb, hml, hown, hts⟩ (c_X9_hangSet l X mi ml ma mb (9 : Int32) hc62) ⟨w_1092, w_1094, w_34, w_58, w_1095⟩ hd_X9_hangSet rfl rfl ⟨(Nat.le_of_ble_eq_true rfl), (Nat.le_of_ble_eq_true rfl)⟩ ⟨Nat.zero_le _, Nat.zero_le _⟩ mPre_blind (va_recv hK hP (ci := 5) rfl cM_o) (mPre_call hP hK hN) rfl rfl hl.1 (Nat.le_of_ble_eq_true rfl) dX9_gold_62 ?_
        obtain ⟨ma_65, hc65, h⟩ := Option.bind_eq_some_iff.mp h
        refine wcV (As := [.int v1, .int r62]) (rest := []) ⟨hx, hb, hml, hown, hts⟩ (c_X9_deal l X mi ml ma mb v1 r62 hc65) ⟨w_1225, w_1227, w_46, w_58, w_1228⟩ hd_X9_deal rfl rfl ⟨(Nat.le_of_ble_eq_true rfl), (Nat.le_of_ble_eq_true rfl)⟩ ⟨Nat.zero_le _, Nat.zero_le _⟩ mPre_blind (va_recv hK hP (ci := 5) rfl cM_o) (mPre_call hP hK hN) hS (fun _ h => h) rfl rfl hl.1 (Nat.le_of_ble_eq_true rfl) dX9_gold_65 (fun H locs hP _ hS => ?_)
        have hP : va_P X.1 vwCl (cM X mi ml ma_65 mb) H := hP
        refine W.eq (g2 := F0 m 68 ls []) rfl ?_
        refine lv_iconst (v := 1) hx hb dX9_gold_68 (by decide) ?_
        refine lv_istore (lv' := [(4, .int (1 : Int32)), (0, .ref (xB X 0)), (1, .int v1), (2, .int v2)]) hx hb dX9_gold_69 hl (by decide) rfl (fun ls hl => ?_)
        exact hL71 500 v1 v2 (1 : Int32) mi ma_65 _ _ ls (lv_sub hl [1, 2, 3, 0] rfl) hP hS h
      · replace h := if_f c40 h
        refine lv_aload_n hx hb dX9_gold_43 rfl (lv_at hl 0 rfl) ?_
        refine rg_M_given hx hb hT hown hK hP w_819 dX9_gold_44 ?_
        refine lv_iload hx hb dX9_gold_47 (lv_at hl 3 rfl) ?_
        refine lv_iconst (v := 0) hx hb dX9_gold_49 (by decide) ?_
        obtain ⟨hi50, h⟩ := gd_e h
        refine rs_m28 hx hb hK hP hN hS (ib_in hi50) dX9_gold_50 (fun H locs hP hS => ?_)
        generalize ema_50 : va_up ma 28 (upd (ma 28) v4.toNatClampNeg (0 : Int32)) = ma_50 at hP
        replace h := lt_g h ema_50
        refine lv_iinc (v := (v4 + (1 : Int32))) (lv' := [(4, .int (v4 + (1 : Int32))), (0, .ref (xB X 0)), (1, .int v1), (2, .int v2)]) hx hb dX9_gold_51 hl (k := 3) rfl rfl (by decide) rfl (fun ls hl => ?_)
        refine lv_goto (tgt := 34) hx hb dX9_gold_54 (by decide) ?_
        exact ih34 v1 v2 (v4 + (1 : Int32)) mi ma_50 _ _ ls (lv_sub hl [1, 2, 3, 0] rfl) hP hS h
  rw [X9_gold] at h
  refine lv_iload_n hx hb dX9_gold_0 rfl (lv_at hl 1 rfl) ?_
  refine lv_i2l hx hb dX9_gold_1 rfl ?_
  refine lv_lconst (v := 0) hx hb dX9_gold_2 (by decide) ?_
  refine lv_ldc2 (v := 99) hx hb hown (hT _ w_1224) dX9_gold_3 ?_
  obtain ⟨r6, hc6, h⟩ := Option.bind_eq_some_iff.mp h
  refine rcS (As := [.long a1.toInt64, .long (0 : Int64), .long (99 : Int64)]) (rest := []) ⟨hx, hb, hml, hown, hts⟩ (c_X9_in l a1.toInt64 (0 : Int64) (99 : Int64) hc6) ⟨w_912, w_913, w_58, w_914⟩ hd_X9_in rfl rfl ⟨(Nat.le_of_ble_eq_true rfl), (Nat.le_of_ble_eq_true rfl)⟩ ⟨Nat.zero_le _, Nat.zero_le _⟩ (fun _ _ _ _ h => h) (fun _ _ _ => trivial) rfl rfl hl.1 (Nat.le_of_ble_eq_true rfl) dX9_gold_6 ?_
  refine lv_if_eq (tgt := 19) hx hb dX9_gold_9 (by decide) (fun c9 => ?_) (fun c9 => ?_)
  · replace h := if_t c9 h
    refine lv_iconst (v := -1) hx hb dX9_gold_19 (by decide) ?_
    cases h
    exact W.iret hx hb hr (fun t ht _ => ⟨rfl, by rw [ht]; exact hP, hS.F ht⟩) hS.2.2 dX9_gold_20
  · replace h := if_f c9 h
    refine lv_iload_n hx hb dX9_gold_12 rfl (lv_at hl 2 rfl) ?_
    obtain ⟨r13, hc13, h⟩ := Option.bind_eq_some_iff.mp h
    refine rcS (As := [.int a2]) (rest := []) ⟨hx, hb, hml, hown, hts⟩ (c_X9_isRow l a2 hc13) ⟨w_908, w_909, w_58, w_910⟩ hd_X9_isRow rfl rfl ⟨(Nat.le_of_ble_eq_true rfl), (Nat.le_of_ble_eq_true rfl)⟩ ⟨Nat.zero_le _, Nat.zero_le _⟩ (fun _ _ _ _ h => h) (fun _ _ _ => trivial) rfl rfl hl.1 (Nat.le_of_ble_eq_true rfl) dX9_gold_13 ?_
    refine lv_if_ne (tgt := 21) hx hb dX9_gold_16 (by decide) (fun c16 => ?_) (fun c16 => ?_)
    · replace h := if_f c16 h
      refine lv_aload_n hx hb dX9_gold_21 rfl (lv_at hl 0 rfl) ?_
      refine lv_iload_n hx hb dX9_gold_22 rfl (lv_at hl 2 rfl) ?_
      refine lv_aload_n hx hb dX9_gold_23 rfl (lv_at hl 0 rfl) ?_
      refine rg_M_people hx hb hT hown hK hP w_779 dX9_gold_24 ?_
      obtain ⟨r27, mi_27, ma_27, hc27, h⟩ := bd3_e h
      refine wcV (As := [.int a2, .int (mi 0)]) (rest := []) ⟨hx, hb, hml, hown, hts⟩ (c_X9_row l X mi ml ma mb a2 (mi 0) hc27) ⟨w_1100, w_905, w_906, w_58, w_907⟩ hd_X9_row rfl rfl ⟨(Nat.le_of_ble_eq_true rfl), (Nat.le_of_ble_eq_true rfl)⟩ ⟨Nat.zero_le _, Nat.zero_le _⟩ mPre_blind (va_recv hK hP (ci := 5) rfl cM_o) (mPre_call hP hK hN) hS (fun _ h => h) rfl rfl hl.1 (Nat.le_of_ble_eq_true rfl) dX9_gold_27 (fun H locs hP _ hS => ?_)
      have hP : va_P X.1 vwCl (cM X mi_27 ml ma_27 mb) H := hP
      refine W.eq (g2 := F0 m 30 ls [.int r27]) rfl ?_
      refine lv_istore_n (lv' := [(3, .int r27), (0, .ref (xB X 0)), (1, .int a1), (2, .int a2)]) hx hb dX9_gold_30 rfl hl (by decide) rfl (fun ls hl => ?_)
      refine lv_iconst (v := 0) hx hb dX9_gold_31 (by decide) ?_
      refine lv_istore (lv' := [(4, .int (0 : Int32)), (3, .int r27), (0, .ref (xB X 0)), (1, .int a1), (2, .int a2)]) hx hb dX9_gold_32 hl (by decide) rfl (fun ls hl => ?_)
      exact hL34 500 a1 a2 (0 : Int32) mi_27 ma_27 _ _ ls (lv_sub hl [2, 3, 4, 0] rfl) hP hS h
    · replace h := if_t c16 h
      refine lv_iconst (v := -1) hx hb dX9_gold_19 (by decide) ?_
      cases h
      exact W.iret hx hb hr (fun t ht _ => ⟨rfl, by rw [ht]; exact hP, hS.F ht⟩) hS.2.2 dX9_gold_20
set_option maxRecDepth 100000 in
set_option maxHeartbeats 4000000 in
theorem c_X9_arePairs (l : Launch) (X : gX) (mi : Nat → Int32) (ml : Nat → Int64) (ma : Nat → Nat → Int32) (mb : Nat → Nat → Int64) (a1 : Int32) {o0 : Int32} (h : X9_arePairs ma a1 = some o0) : Met l yX9_arePairs (Cond.code yX9_arePairs cX9_arePairs 4 (some .boolean) :: gT) { frames := 1, cells := 0, slots := 0, locals := 25 } (va_Pc [.ref (xB X 0), .int a1] (mPre X mi ml ma mb)) (k2_QcV (.int o0)) 0 0 (fun _ => False) := by
  refine Met.ofW (cc := cX9_arePairs) (maxL := 4) (ret := (some .boolean)) (by decide) rfl ?_
  intro p e s m args below meth c s₁ B hml hv
  obtain ⟨rfl, hP, hK, hN⟩ := hv
  have hx := B.exec
  have hb := B.bytes
  have hr := B.returns
  have hts := atoms_spec (ws := (Cond.code yX9_arePairs cX9_arePairs 4 (some .boolean) :: gT)) B.pre
  have hT : ∀ w ∈ gT, w.before _ s = true := fun w hw => hts w (List.mem_cons_of_mem _ hw)
  have hown : s.vm.findClass RX9 = some m.cls := findClass_of_methodNamed B.named
  have hlocks := B.notSynchronized
  have hS : va_S (mA X) s.heap s.heap [] := va_S.rf
  have hl := lv_entry ([.ref (xB X 0), .int a1]) (n := 4) (Nat.le_of_ble_eq_true rfl)
  rw [lg_entry_eq]
  generalize (lg_sl ([.ref (xB X 0), .int a1]) ++ List.replicate (4 - (lg_sl ([.ref (xB X 0), .int a1])).length) Slot.unset).toArray = ls at hl ⊢
  have hl : lv_has ls 4 [(0, .ref (xB X 0)), (1, .int a1)] := hl
  have hL4 : ∀ (n4 : Nat) (v1 : Int32) (v2 : Int32) (v3 : Int32) (ls : Array Slot), lv_has ls 4 [(0, .ref (xB X 0)), (1, .int v1), (2, .int v2), (3, .int v3)] → X9_arePairs_4 ma n4 v1 v2 v3 = some o0 → W p l e (headSpec (Cond.code yX9_arePairs cX9_arePairs 4 (some .boolean) :: gT) { frames := 1, cells := 0, slots := 0, locals := 25 }).room s m [.ref (xB X 0), .int a1].toArray below meth c s.heap [] 0 0 (MQ below (k2_QcV (.int o0)) [.ref (xB X 0), .int a1].toArray s 0 0 (fun _ => False)) (F0 m 4 ls []) := by
    intro n4
    induction n4 with
    | zero =>
      intro v1 v2 v3 ls hl h
      rw [X9_arePairs_4] at h
      cases h
    | succ n4 ih4 =>
      intro v1 v2 v3 ls hl h
      rw [X9_arePairs_4] at h
      refine lv_iload_n hx hb dX9_arePairs_4 rfl (lv_at hl 3 rfl) ?_
      refine lv_aload_n hx hb dX9_arePairs_5 rfl (lv_at hl 0 rfl) ?_
      refine rg_M_rowSize hx hb hT hown hK hP w_796 dX9_arePairs_6 ?_
      refine lv_iload_n hx hb dX9_arePairs_9 rfl (lv_at hl 1 rfl) ?_
      obtain ⟨hi10, h⟩ := gd_e h
      refine ra_m10 hx hb hK hP (ib_in hi10) dX9_arePairs_10 ?_
      refine lv_icmp_ge (tgt := 62) hx hb dX9_arePairs_11 (by decide) (fun c11 => ?_) (fun c11 => ?_)
      · replace h := if_t c11 h
        refine lv_iload_n hx hb dX9_arePairs_62 rfl (lv_at hl 2 rfl) ?_
        obtain ⟨hz63, h⟩ := gd_e h
        cases h
        exact W.zret (ty := .boolean) hx hb hr (nar01 (of_decide_eq_true hz63)) (fun t ht _ => ⟨rfl, ht⟩) (fun _ hq => by cases hq) dX9_arePairs_63
      · replace h := if_f c11 h
        refine lv_iload_n hx hb dX9_arePairs_14 rfl (lv_at hl 2 rfl) ?_
        refine lv_if_eq (tgt := 54) hx hb dX9_arePairs_15 (by decide) (fun c15 => ?_) (fun c15 => ?_)
        · replace h := if_t c15 h
          refine lv_iconst (v := 0) hx hb dX9_arePairs_54 (by decide) ?_
          refine lv_istore_n (lv' := [(2, .int (0 : Int32)), (0, .ref (xB X 0)), (1, .int v1), (3, .int v3)]) hx hb dX9_arePairs_55 rfl hl (by decide) rfl (fun ls hl => ?_)
          refine lv_iinc (v := (v3 + (1 : Int32))) (lv' := [(3, .int (v3 + (1 : Int32))), (2, .int (0 : Int32)), (0, .ref (xB X 0)), (1, .int v1)]) hx hb dX9_arePairs_56 hl (k := 3) rfl rfl (by decide) rfl (fun ls hl => ?_)
          refine lv_goto (tgt := 4) hx hb dX9_arePairs_59 (by decide) ?_
          exact ih4 v1 (0 : Int32) (v3 + (1 : Int32)) ls (lv_sub hl [2, 3, 1, 0] rfl) h
        · replace h := if_f c15 h
          refine lv_aload_n hx hb dX9_arePairs_18 rfl (lv_at hl 0 rfl) ?_
          refine rg_M_rows hx hb hT hown hK hP w_797 dX9_arePairs_19 ?_
          refine lv_bipush (v := 40) hx hb dX9_arePairs_22 (by decide) ?_
          refine lv_iload_n hx hb dX9_arePairs_24 rfl (lv_at hl 1 rfl) ?_
          refine lv_imul hx hb dX9_arePairs_25 ?_
          refine lv_iload_n hx hb dX9_arePairs_26 rfl (lv_at hl 3 rfl) ?_
          refine lv_iadd hx hb dX9_arePairs_27 ?_
          obtain ⟨hi28, h⟩ := gd_e h
          refine ra_m11 hx hb hK hP (ib_in hi28) dX9_arePairs_28 ?_
          refine lv_i2l hx hb dX9_arePairs_29 rfl ?_
          refine lv_lconst (v := 0) hx hb dX9_arePairs_30 (by decide) ?_
          refine lv_iload_n hx hb dX9_arePairs_31 rfl (lv_at hl 3 rfl) ?_
          refine lv_iconst (v := 2) hx hb dX9_arePairs_32 (by decide) ?_
          obtain ⟨hne33, h⟩ := gn_e h
          refine lv_irem hx hb dX9_arePairs_33 hne33 ?_
          refine lv_if_ne (tgt := 43) hx hb dX9_arePairs_34 (by decide) (fun c34 => ?_) (fun c34 => ?_)
          · replace h := if_f c34 h
            refine lv_lconst (v := 1) hx hb dX9_arePairs_43 (by decide) ?_
            obtain ⟨r44, hc44, h⟩ := Option.bind_eq_some_iff.mp h
            refine rcS (As := [.long ((ma 11 (((40 : Int32) * v1) + v3).toNatClampNeg).toInt64), .long (0 : Int64), .long (1 : Int64)]) (rest := []) ⟨hx, hb, hml, hown, hts⟩ (c_X9_in l ((ma 11 (((40 : Int32) * v1) + v3).toNatClampNeg).toInt64) (0 : Int64) (1 : Int64) hc44) ⟨w_912, w_913, w_58, w_914⟩ hd_X9_in rfl rfl ⟨(Nat.le_of_ble_eq_true rfl), (Nat.le_of_ble_eq_true rfl)⟩ ⟨Nat.zero_le _, Nat.zero_le _⟩ (fun _ _ _ _ h => h) (fun _ _ _ => trivial) rfl rfl hl.1 (Nat.le_of_ble_eq_true rfl) dX9_arePairs_44 ?_
            refine lv_if_eq (tgt := 54) hx hb dX9_arePairs_47 (by decide) (fun c47 => ?_) (fun c47 => ?_)
            · replace h := if_t c47 h
              refine lv_iconst (v := 0) hx hb dX9_arePairs_54 (by decide) ?_
              refine lv_istore_n (lv' := [(2, .int (0 : Int32)), (0, .ref (xB X 0)), (1, .int v1), (3, .int v3)]) hx hb dX9_arePairs_55 rfl hl (by decide) rfl (fun ls hl => ?_)
              refine lv_iinc (v := (v3 + (1 : Int32))) (lv' := [(3, .int (v3 + (1 : Int32))), (2, .int (0 : Int32)), (0, .ref (xB X 0)), (1, .int v1)]) hx hb dX9_arePairs_56 hl (k := 3) rfl rfl (by decide) rfl (fun ls hl => ?_)
              refine lv_goto (tgt := 4) hx hb dX9_arePairs_59 (by decide) ?_
              exact ih4 v1 (0 : Int32) (v3 + (1 : Int32)) ls (lv_sub hl [2, 3, 1, 0] rfl) h
            · replace h := if_f c47 h
              refine lv_iconst (v := 1) hx hb dX9_arePairs_50 (by decide) ?_
              refine lv_goto (tgt := 55) hx hb dX9_arePairs_51 (by decide) ?_
              refine lv_istore_n (lv' := [(2, .int (1 : Int32)), (0, .ref (xB X 0)), (1, .int v1), (3, .int v3)]) hx hb dX9_arePairs_55 rfl hl (by decide) rfl (fun ls hl => ?_)
              refine lv_iinc (v := (v3 + (1 : Int32))) (lv' := [(3, .int (v3 + (1 : Int32))), (2, .int (1 : Int32)), (0, .ref (xB X 0)), (1, .int v1)]) hx hb dX9_arePairs_56 hl (k := 3) rfl rfl (by decide) rfl (fun ls hl => ?_)
              refine lv_goto (tgt := 4) hx hb dX9_arePairs_59 (by decide) ?_
              exact ih4 v1 (1 : Int32) (v3 + (1 : Int32)) ls (lv_sub hl [2, 3, 1, 0] rfl) h
          · replace h := if_t c34 h
            refine lv_ldc2 (v := 7) hx hb hown (hT _ w_1124) dX9_arePairs_37 ?_
            refine lv_goto (tgt := 44) hx hb dX9_arePairs_40 (by decide) ?_
            obtain ⟨r44, hc44, h⟩ := Option.bind_eq_some_iff.mp h
            refine rcS (As := [.long ((ma 11 (((40 : Int32) * v1) + v3).toNatClampNeg).toInt64), .long (0 : Int64), .long (7 : Int64)]) (rest := []) ⟨hx, hb, hml, hown, hts⟩ (c_X9_in l ((ma 11 (((40 : Int32) * v1) + v3).toNatClampNeg).toInt64) (0 : Int64) (7 : Int64) hc44) ⟨w_912, w_913, w_58, w_914⟩ hd_X9_in rfl rfl ⟨(Nat.le_of_ble_eq_true rfl), (Nat.le_of_ble_eq_true rfl)⟩ ⟨Nat.zero_le _, Nat.zero_le _⟩ (fun _ _ _ _ h => h) (fun _ _ _ => trivial) rfl rfl hl.1 (Nat.le_of_ble_eq_true rfl) dX9_arePairs_44 ?_
            refine lv_if_eq (tgt := 54) hx hb dX9_arePairs_47 (by decide) (fun c47 => ?_) (fun c47 => ?_)
            · replace h := if_t c47 h
              refine lv_iconst (v := 0) hx hb dX9_arePairs_54 (by decide) ?_
              refine lv_istore_n (lv' := [(2, .int (0 : Int32)), (0, .ref (xB X 0)), (1, .int v1), (3, .int v3)]) hx hb dX9_arePairs_55 rfl hl (by decide) rfl (fun ls hl => ?_)
              refine lv_iinc (v := (v3 + (1 : Int32))) (lv' := [(3, .int (v3 + (1 : Int32))), (2, .int (0 : Int32)), (0, .ref (xB X 0)), (1, .int v1)]) hx hb dX9_arePairs_56 hl (k := 3) rfl rfl (by decide) rfl (fun ls hl => ?_)
              refine lv_goto (tgt := 4) hx hb dX9_arePairs_59 (by decide) ?_
              exact ih4 v1 (0 : Int32) (v3 + (1 : Int32)) ls (lv_sub hl [2, 3, 1, 0] rfl) h
            · replace h := if_f c47 h
              refine lv_iconst (v := 1) hx hb dX9_arePairs_50 (by decide) ?_
              refine lv_goto (tgt := 55) hx hb dX9_arePairs_51 (by decide) ?_
              refine lv_istore_n (lv' := [(2, .int (1 : Int32)), (0, .ref (xB X 0)), (1, .int v1), (3, .int v3)]) hx hb dX9_arePairs_55 rfl hl (by decide) rfl (fun ls hl => ?_)
              refine lv_iinc (v := (v3 + (1 : Int32))) (lv' := [(3, .int (v3 + (1 : Int32))), (2, .int (1 : Int32)), (0, .ref (xB X 0)), (1, .int v1)]) hx hb dX9_arePairs_56 hl (k := 3) rfl rfl (by decide) rfl (fun ls hl => ?_)
              refine lv_goto (tgt := 4) hx hb dX9_arePairs_59 (by decide) ?_
              exact ih4 v1 (1 : Int32) (v3 + (1 : Int32)) ls (lv_sub hl [2, 3, 1, 0] rfl) h
  rw [X9_arePairs] at h
  refine lv_iconst (v := 1) hx hb dX9_arePairs_0 (by decide) ?_
  refine lv_istore_n (lv' := [(2, .int (1 : Int32)), (0, .ref (xB X 0)), (1, .int a1)]) hx hb dX9_arePairs_1 rfl hl (by decide) rfl (fun ls hl => ?_)
  refine lv_iconst (v := 0) hx hb dX9_arePairs_2 (by decide) ?_
  refine lv_istore_n (lv' := [(3, .int (0 : Int32)), (2, .int (1 : Int32)), (0, .ref (xB X 0)), (1, .int a1)]) hx hb dX9_arePairs_3 rfl hl (by decide) rfl (fun ls hl => ?_)
  exact hL4 500 a1 (1 : Int32) (0 : Int32) ls (lv_sub hl [2, 3, 1, 0] rfl) h
