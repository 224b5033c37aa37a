/-! the law's start -/
theorem Rel0 : Rel gi0 gl0 ga0 vS0 vF0 sN0 sF0 mi0 ml0 ma0 := by
  refine ⟨fun r hr => ⟨?_, Or.inl rfl, fun i _ => rfl⟩, fun r hr => ⟨?_, Or.inl rfl, fun i _ => ⟨rfl, (show (-128 : Int) ≤ (0 : Int32).toInt by decide), (show (0 : Int32).toInt ≤ (127 : Int) by decide)⟩⟩, ⟨rfl, rfl, rfl, rfl, fun f _ => rfl⟩, 0, fun _ => 0, rfl, fun x hx => absurd hx (Nat.not_lt_zero _), ⟨0, fun _ => 0, fun _ _ => -9, fun _ _ => -9, fun _ _ => 0, fun _ => 0, fun _ _ => 0, ⟨by omega, fun d _ => ⟨by omega, fun x hx => absurd hx (Nat.not_lt_zero _), fun x hx => absurd hx (Nat.not_lt_zero _), fun x hx => absurd hx (Nat.not_lt_zero _), fun x hx => absurd hx (Nat.not_lt_zero _), fun x hx => absurd hx (Nat.not_lt_zero _)⟩⟩, ⟨rfl, rfl, rfl, fun x hx => absurd hx (Nat.not_lt_zero _), ⟨rfl, fun x hx => absurd hx (Nat.not_lt_zero _)⟩, fun d hd => absurd hd (Nat.not_lt_zero _)⟩, ⟨rfl, rfl, fun x hx => absurd hx (Nat.not_lt_zero _), fun d hd => absurd hd (Nat.not_lt_zero _)⟩⟩, fun q hq => Or.inl ⟨rfl, ?_⟩⟩
  · rcases (show r = 0 ∨ r = 1 ∨ r = 2 ∨ r = 3 ∨ r = 4 ∨ r = 5 by omega) with rfl | rfl | rfl | rfl | rfl | rfl <;> rfl
  · rcases (show r = 0 ∨ r = 1 ∨ r = 2 ∨ r = 3 by omega) with rfl | rfl | rfl | rfl <;> rfl
  · rcases (show q = 0 ∨ q = 1 ∨ q = 2 by omega) with rfl | rfl | rfl <;> rfl
theorem D_nodup {A : Nat → Prop} {ws : va_W} (h : va_D A ws) : (ws.map (fun q => q.1)).Nodup := by
  rw [List.Nodup, List.pairwise_iff_getElem]
  intro i j hi hj hij e
  rw [List.length_map] at hi hj
  simp only [List.getElem_map] at e
  have := h.1 i j ws[i] ws[j] (List.getElem?_eq_getElem hi) (List.getElem?_eq_getElem hj) e
  omega
theorem D_in {A : Nat → Prop} {ws : va_W} (h : va_D A ws) {q : Nat} (hq : q ∈ ws.map (fun q => q.1)) : A q := by
  obtain ⟨x, hx, e⟩ := List.mem_map.mp hq
  obtain ⟨i, hi⟩ := List.getElem?_of_mem hx
  rw [← e]; exact h.2 i x hi
theorem D_R {A : Nat → Prop} {w1 w2 : va_W} (h : va_D A (w1 ++ w2)) : va_D A w2 := by
  refine ⟨fun i j p q hi hj e => ?_, fun k q hk => ?_⟩
  · have := h.1 (w1.length + i) (w1.length + j) p q (by rw [List.getElem?_append_right (by omega)]; rw [show w1.length + i - w1.length = i by omega]; exact hi) (by rw [List.getElem?_append_right (by omega)]; rw [show w1.length + j - w1.length = j by omega]; exact hj) e
    omega
  · exact h.2 (w1.length + k) q (by rw [List.getElem?_append_right (by omega)]; rw [show w1.length + k - w1.length = k by omega]; exact hk)
theorem D_dis {A : Nat → Prop} {w1 w2 : va_W} (h : va_D A (w1 ++ w2)) {q : Nat} (h1 : q ∈ w1.map (fun q => q.1)) (h2 : q ∈ w2.map (fun q => q.1)) : False := by
  obtain ⟨x, hx, ex⟩ := List.mem_map.mp h1
  obtain ⟨y, hy, ey⟩ := List.mem_map.mp h2
  obtain ⟨i, hi⟩ := List.getElem?_of_mem hx
  obtain ⟨j, hj⟩ := List.getElem?_of_mem hy
  have li : i < w1.length := (List.getElem?_eq_some_iff.mp hi).1
  have := h.1 i (w1.length + j) x y (by rw [List.getElem?_append_left li]; exact hi) (by rw [List.getElem?_append_right (by omega)]; rw [show w1.length + j - w1.length = j by omega]; exact hj) (by rw [ex, ey])
  omega
theorem P_L {D : va_G} {cl : List vw_C} {w1 w2 : va_W} {H : Heap} (h : va_P D cl (w1 ++ w2) H) : va_P D cl w1 H := P_mem (fun q hq => P_at h (List.mem_append.mpr (Or.inl hq)))
theorem P_R {D : va_G} {cl : List vw_C} {w1 w2 : va_W} {H : Heap} (h : va_P D cl (w1 ++ w2) H) : va_P D cl w2 H := P_mem (fun q hq => P_at h (List.mem_append.mpr (Or.inr hq)))
theorem gMore_blind (U : State) (g : JFrame) (mk : MethodId) (a : Array Value) (h : gMore U) : gMore (U.calling g mk a) :=
  ⟨va_AO.moved (u := U) (U := U.calling g mk a) (Vm.Alike.refl U.vm) h.1, va_AO.moved (u := U) (U := U.calling g mk a) (Vm.Alike.refl U.vm) h.2.1, va_Nw.same (u := U) (U := U.calling g mk a) rfl rfl h.2.2.1, va_Nw.same (u := U) (U := U.calling g mk a) rfl rfl h.2.2.2.1, va_Nw.same (u := U) (U := U.calling g mk a) rfl rfl h.2.2.2.2⟩
theorem gMore_warm {s U : State} (hW : s.WarmedH U.vm) (h : gMore s) : gMore U :=
  ⟨va_AO.moved hW.alike h.1, va_AO.moved hW.alike h.2.1, va_Nw.warmM hW h.2.2.1, va_Nw.warmM hW h.2.2.2.1, va_Nw.warmM hW h.2.2.2.2⟩
theorem arr_cls {s : State} {A : Array Value} {ty : FieldType} (hp : ∀ c, (s.vm.findClass ("[" ++ ty.toString) = some c → va_RA s c ty)) (h : (Cond.arrayClass ty).before A s = true) : ∃ c, ArrOfT s c ty ∧ va_RA s c ty := by
  obtain ⟨c, k, comp, h1, h2, h3⟩ := Cond.arrayClass_spec h
  exact ⟨c, fun n z => ⟨fun k h => (by cases h), k, h2, comp, h3⟩, hp c h1⟩
theorem arr_over {s : State} {A : Array Value} {C : String} (h : (Cond.arrayOver (.object C)).before A s = true) : ∃ c, ArrOfT s c (.object C) ∧ va_RA s c (.object C) := by
  obtain ⟨comp, c, k, h1, h2, h3, h4, h5⟩ := Cond.arrayOver_spec h
  exact ⟨c, fun n z => ⟨fun k h => (by cases h), k, h3, comp, h4⟩, k, comp, h3, h4, h1, h5⟩
set_option maxHeartbeats 4000000 in
set_option maxRecDepth 100000 in
theorem law_gZ {p : Program} {s : State} {m : MethodId} {meth : Method} {c : Code} {b L : Nat} {xs : Nat → Int32} (C0 : lw_At p s m meth c b L xs) : gZ (fun q : Nat => s.heap.size ≤ q) s s.heap := by
  obtain ⟨hx, hb, hr, hml, hown, hts0, hX, hbl, hlocks, hgv⟩ := id C0
  have hT : ∀ w ∈ gT, w.before #[Value.ref b] s = true := fun w hw => hts0 w (List.mem_filter.mp hw).1
  have hg := flat_of_before _ hgv
  have hAs : ∀ a : Nat, a < s.heap.size → ¬ (fun q : Nat => s.heap.size ≤ q) a := fun a h => Nat.not_le.mpr h
  obtain ⟨t1, et1, hT1⟩ := va_Tof (tm := (Term.static "GooseTrain$Kind" "LETTERS" "[I")) (ty := .int) (N := 6) (f := fun j => .int (gLet j)) (A := fun q : Nat => s.heap.size ≤ q) (by omega) (hg (.arrayOf (Term.static "GooseTrain$Kind" "LETTERS" "[I") .int) (by decide +kernel)) (va_eqt (hg (.eq (.length (Term.static "GooseTrain$Kind" "LETTERS" "[I")) (.int 6)) (by decide +kernel))) (fun j hj => by
    rcases (show j = 0 ∨ j = 1 ∨ j = 2 ∨ j = 3 ∨ j = 4 ∨ j = 5 by omega) with rfl | rfl | rfl | rfl | rfl | rfl
    · exact va_eqt (hg (.eq (.elem (Term.static "GooseTrain$Kind" "LETTERS" "[I") (.int 0)) (.int 111)) (by decide +kernel))
    · exact va_eqt (hg (.eq (.elem (Term.static "GooseTrain$Kind" "LETTERS" "[I") (.int 1)) (.int 103)) (by decide +kernel))
    · exact va_eqt (hg (.eq (.elem (Term.static "GooseTrain$Kind" "LETTERS" "[I") (.int 2)) (.int 115)) (by decide +kernel))
    · exact va_eqt (hg (.eq (.elem (Term.static "GooseTrain$Kind" "LETTERS" "[I") (.int 3)) (.int 99)) (by decide +kernel))
    · exact va_eqt (hg (.eq (.elem (Term.static "GooseTrain$Kind" "LETTERS" "[I") (.int 4)) (.int 112)) (by decide +kernel))
    · exact va_eqt (hg (.eq (.elem (Term.static "GooseTrain$Kind" "LETTERS" "[I") (.int 5)) (.int 107)) (by decide +kernel))) hAs
  have hZ1 := va_Zof (A := fun q : Nat => s.heap.size ≤ q) (hts0 (.laysStatic "GooseTrain$Kind" "LETTERS" "[I") (List.mem_of_getElem? (i := 302) (by decide +kernel))) (hT _ w_62) et1 hAs
  obtain ⟨t2, et2, hT2⟩ := va_Tof (tm := (Term.static "GooseTrain$Kind" "COMES_FROM" "[I")) (ty := .int) (N := 6) (f := fun j => .int (gCom j)) (A := fun q : Nat => s.heap.size ≤ q) (by omega) (hg (.arrayOf (Term.static "GooseTrain$Kind" "COMES_FROM" "[I") .int) (by decide +kernel)) (va_eqt (hg (.eq (.length (Term.static "GooseTrain$Kind" "COMES_FROM" "[I")) (.int 6)) (by decide +kernel))) (fun j hj => by
    rcases (show j = 0 ∨ j = 1 ∨ j = 2 ∨ j = 3 ∨ j = 4 ∨ j = 5 by omega) with rfl | rfl | rfl | rfl | rfl | rfl
    · exact va_eqt (hg (.eq (.elem (Term.static "GooseTrain$Kind" "COMES_FROM" "[I") (.int 0)) (.int (-9))) (by decide +kernel))
    · exact va_eqt (hg (.eq (.elem (Term.static "GooseTrain$Kind" "COMES_FROM" "[I") (.int 1)) (.int 0)) (by decide +kernel))
    · exact va_eqt (hg (.eq (.elem (Term.static "GooseTrain$Kind" "COMES_FROM" "[I") (.int 2)) (.int 0)) (by decide +kernel))
    · exact va_eqt (hg (.eq (.elem (Term.static "GooseTrain$Kind" "COMES_FROM" "[I") (.int 3)) (.int 0)) (by decide +kernel))
    · exact va_eqt (hg (.eq (.elem (Term.static "GooseTrain$Kind" "COMES_FROM" "[I") (.int 4)) (.int 2)) (by decide +kernel))
    · exact va_eqt (hg (.eq (.elem (Term.static "GooseTrain$Kind" "COMES_FROM" "[I") (.int 5)) (.int 1)) (by decide +kernel))) hAs
  have hZ2 := va_Zof (A := fun q : Nat => s.heap.size ≤ q) (hts0 (.laysStatic "GooseTrain$Kind" "COMES_FROM" "[I") (List.mem_of_getElem? (i := 374) (by decide +kernel))) (hT _ w_62) et2 hAs
  exact ⟨t1, t2, hZ1, hT1, hZ2, hT2⟩
set_option maxHeartbeats 4000000 in
set_option maxRecDepth 100000 in
theorem law_K {p : Program} {s : State} {m : MethodId} {meth : Method} {c : Code} {b L : Nat} {xs : Nat → Int32} (C0 : lw_At p s m meth c b L xs) : (∃ (D : va_G) (cI cJ cS cV : ClassId), va_K D vwCl (tys4 cI cJ cS cV) s) ∧ gMore s := by
  obtain ⟨hx, hb, hr, hml, hown, hts0, hX, hbl, hlocks, hgv⟩ := id C0
  have hT : ∀ w ∈ gT, w.before #[Value.ref b] s = true := fun w hw => hts0 w (List.mem_filter.mp hw).1
  have o1 := hts0 (.arrayOver (.object "GooseTrain$Strip")) (List.mem_of_getElem? (i := 75) (by decide +kernel))
  have o2 := hts0 (.arrayOver (.object "GooseTrain$Village")) (List.mem_of_getElem? (i := 136) (by decide +kernel))
  have n1 := hts0 (.methodLinkNest RX8 20 yX7_init "GooseTrain") (List.mem_of_getElem? (i := 78) (by decide +kernel))
  have n2 := hts0 (.methodLinkNest RX8 31 yX0_init "GooseTrain") (List.mem_of_getElem? (i := 139) (by decide +kernel))
  have n3 := hts0 (.methodLinkNest RX8 38 yX3_init "GooseTrain") (List.mem_of_getElem? (i := 149) (by decide +kernel))
  refine ⟨?_, va_AO.of o1, va_AO.of o2, va_Nw.of rfl n1, va_Nw.of rfl n2, va_Nw.of rfl n3⟩
  obtain ⟨k0, iS0, hKn0⟩ := u_known (C := RX0) (T := TX0) (N := 1) (n := 1) hT inX0 (hT _ w_138)
  obtain ⟨k1, iS1, hKn1⟩ := u_known (C := RX3) (T := TX3) (N := 4) (n := 4) hT inX3 (hT _ w_148)
  obtain ⟨k2, iS2, hKn2⟩ := u_known (C := RX6) (T := TX6) (N := 2) (n := 2) hT inX6 (hT _ w_166)
  obtain ⟨k3, iS3, hKn3⟩ := u_known (C := RX7) (T := TX7) (N := 13) (n := 13) hT inX7 (hT _ w_77)
  obtain ⟨k4, iS4, hKn4⟩ := u_known (C := RX8) (T := TX8) (N := 11) (n := 11) hT inX8 (hT _ w_67)
  obtain ⟨k5, iS5, hKn5⟩ := u_known (C := RX9) (T := TX9) (N := 41) (n := 41) hT inX9 (hT _ w_774)
  obtain ⟨cI, aI1, aI2⟩ := arr_cls (ty := .int) (fun _ h => h) (hT _ w_135)
  obtain ⟨cJ, aJ1, aJ2⟩ := arr_cls (ty := .long) (fun _ h => h) (hT _ w_903)
  obtain ⟨cS, aS1, aS2⟩ := arr_over o1
  obtain ⟨cV, aV1, aV2⟩ := arr_over o2
  refine ⟨(fun k => if k = 0 then k0 else if k = 1 then k1 else if k = 2 then k2 else if k = 3 then k3 else if k = 4 then k4 else k5, fun k => if k = 0 then iS0 else if k = 1 then iS1 else if k = 2 then iS2 else if k = 3 then iS3 else if k = 4 then iS4 else iS5), cI, cJ, cS, cV, ?_, ?_⟩
  · intro k q hq
    match k, hq with
    | 0, hq => cases hq; exact hKn0
    | 1, hq => cases hq; exact hKn1
    | 2, hq => cases hq; exact hKn2
    | 3, hq => cases hq; exact hKn3
    | 4, hq => cases hq; exact hKn4
    | 5, hq => cases hq; exact hKn5
    | k + 6, hq => simp [vwCl] at hq
  · intro k q hq
    match k, hq with
    | 0, hq => cases hq; exact ⟨aI1, aI2⟩
    | 1, hq => cases hq; exact ⟨aJ1, aJ2⟩
    | 2, hq => cases hq; exact ⟨aS1, aS2⟩
    | 3, hq => cases hq; exact ⟨aV1, aV2⟩
    | k + 4, hq => simp [tys4] at hq
set_option maxHeartbeats 8000000 in
set_option maxRecDepth 100000 in
/-- from the entry, for every script of at most 384 ints, the law comes to its end with true -/
theorem whole_start {p : Program} {e : Env} {s : State} {m : MethodId} {below : List Frame} {meth : Method} {c : Code} (l : Launch) {b L : Nat} {xs : Nat → Int32} (hL : L ≤ 384) (C0 : lw_At p s m meth c b L xs) : W p l e room_1 s m #[Value.ref b] below meth c s.heap [] 0 0 (lw_Z below #[Value.ref b] s) (entryFrame m ([Value.ref b] : List Value).toArray 4) := by
  obtain ⟨hx, hb, hr, hml, hown, hts0, hX, hbl, hlocks, hgv⟩ := id C0
  have hts := lw_hts hts0
  have hT : ∀ w ∈ gT, w.before #[Value.ref b] s = true := fun w hw => hts0 w (List.mem_filter.mp hw).1
  have hown : s.vm.findClass RL = some m.cls := hown
  have hZ := law_gZ C0
  obtain ⟨⟨D, cI, cJ, cS, cV, hK⟩, hMo⟩ := law_K C0
  have hA : ∀ q : Nat, s.heap.size ≤ q → (fun q : Nat => s.heap.size ≤ q) q := fun _ h => h
  have hS : va_S (fun q : Nat => s.heap.size ≤ q) s.heap s.heap [] := va_S.rf
  have hP : va_P D vwCl [] s.heap := fun k q h => by simp at h
  have hD : va_D (fun q : Nat => s.heap.size ≤ q) [] := ⟨fun i j p q h => by simp at h, fun k q h => by simp at h⟩
  have hl := lv_entry ([.ref b]) (n := 4) (Nat.le_of_ble_eq_true rfl)
  rw [lg_entry_eq]
  generalize (lg_sl ([.ref b]) ++ List.replicate (4 - (lg_sl ([.ref b])).length) Slot.unset).toArray = ls at hl ⊢
  have hl : lv_has ls 4 [(0, .ref b)] := hl
  refine va_new (ci := 4) (fs := [.null, .null, .null, .null, .null, .null, .null, .int 0, .int 0, .long 0, .long 0]) (C := RX8) (T := TX8) (N := 11) hx hb hT inX8 tyX8 tyX8_ok hown (hT _ w_66) (hT _ w_67) (hT _ w_52) hK hP hD hS hA rfl (fun j hj => by rcases (show j = 0 ∨ j = 1 ∨ j = 2 ∨ j = 3 ∨ j = 4 ∨ j = 5 ∨ j = 6 ∨ j = 7 ∨ j = 8 ∨ j = 9 ∨ j = 10 by omega) with rfl | rfl | rfl | rfl | rfl | rfl | rfl | rfl | rfl | rfl | rfl <;> rfl) (Nat.le_of_ble_eq_true rfl) (Nat.le_of_ble_eq_true rfl) dL_law_0 (fun q0 H hP hD hS => ?_)
  refine W.widen (k := 1) (n := 11) (Nat.le_refl _) (Nat.le_refl _) ?_
  refine lv_dup hx hb dL_law_3 rfl ?_
  have hF := free_last hD hS hA
  refine icL (As := []) (rest := [.ref q0]) ⟨hx, hb, hml, hown, hts⟩ (c_X8_init l D cI cJ cS cV q0 H.size) ⟨w_68, w_69, w_52, w_70⟩ rfl (by decide +kernel) rfl rfl ⟨Nat.le_of_ble_eq_true rfl, Nat.le_of_ble_eq_true rfl⟩ ⟨Nat.le_of_ble_eq_true rfl, Nat.le_of_ble_eq_true rfl⟩ (fun U g mk a q => ⟨iPre_blind U g mk a q.1, gMore_blind U g mk a q.2⟩) (fun U hU hW => ⟨iPre_call hP hK U hU hW, gMore_warm hW hMo⟩) hS hF rfl rfl hl.1 (Nat.le_of_ble_eq_true rfl) dL_law_4 (fun H1 locs hB hk1 hS => ?_)
  obtain ⟨xa, xav, xas, ea, hG⟩ := hB
  obtain ⟨hP1, hD1⟩ := hG (fun _ => 0)
  obtain ⟨hP, hD⟩ := join_last hP hD hk1 hF hP1 hD1
  clear hP1 hD1 hk1 hF hG
  generalize H1 = H at hP hS ⊢
  have hP : va_P D vwCl (cG (D, (cI, cJ, cS, cV), xa, xav, xas, fun _ => 0) gi0 gl0 ga0 vS0 vF0 sN0 sF0) H := hP
  have hD : va_D (fun q : Nat => s.heap.size ≤ q) (cG (D, (cI, cJ, cS, cV), xa, xav, xas, fun _ => 0) gi0 gl0 ga0 vS0 vF0 sN0 sF0) := hD
  refine W.widen (k := 75) (n := 1985) (Nat.le_refl _) (Nat.le_refl _) ?_
  refine lv_astore_n (lv' := [(1, .ref q0), (0, .ref b)]) hx hb dL_law_7 rfl hl (by decide) rfl (fun ls hl => ?_)
  refine va_new (ci := 5) (fs := [.int 0, .null, .null, .null, .null, .null, .int 0, .int 0, .null, .null, .null, .null, .int 0, .long 0, .long 0, .int 0, .null, .null, .null, .null, .null, .null, .null, .null, .null, .null, .null, .null, .null, .null, .null, .null, .int 0, .int 0, .int 0, .null, .null, .null, .null, .null, .null]) (C := RX9) (T := TX9) (N := 41) hx hb hT inX9 tyX9 tyX9_ok hown (hT _ w_773) (hT _ w_774) (hT _ w_58) hK hP hD hS hA rfl (fun j hj => by rcases (show j = 0 ∨ j = 1 ∨ j = 2 ∨ j = 3 ∨ j = 4 ∨ j = 5 ∨ j = 6 ∨ j = 7 ∨ j = 8 ∨ j = 9 ∨ j = 10 ∨ j = 11 ∨ j = 12 ∨ j = 13 ∨ j = 14 ∨ j = 15 ∨ j = 16 ∨ j = 17 ∨ j = 18 ∨ j = 19 ∨ j = 20 ∨ j = 21 ∨ j = 22 ∨ j = 23 ∨ j = 24 ∨ j = 25 ∨ j = 26 ∨ j = 27 ∨ j = 28 ∨ j = 29 ∨ j = 30 ∨ j = 31 ∨ j = 32 ∨ j = 33 ∨ j = 34 ∨ j = 35 ∨ j = 36 ∨ j = 37 ∨ j = 38 ∨ j = 39 ∨ j = 40 by omega) with rfl | rfl | rfl | rfl | rfl | rfl | rfl | rfl | rfl | rfl | rfl | rfl | rfl | rfl | rfl | rfl | rfl | rfl | rfl | rfl | rfl | rfl | rfl | rfl | rfl | rfl | rfl | rfl | rfl | rfl | rfl | rfl | rfl | rfl | rfl | rfl | rfl | rfl | rfl | rfl | rfl <;> rfl) (Nat.le_of_ble_eq_true rfl) (Nat.le_of_ble_eq_true rfl) dL_law_8 (fun q1 H hP hD hS => ?_)
  refine W.widen (k := 76) (n := 2026) (Nat.le_refl _) (Nat.le_refl _) ?_
  refine lv_dup hx hb dL_law_11 rfl ?_
  have hF := free_last hD hS hA
  refine icL (As := []) (rest := [.ref q1]) ⟨hx, hb, hml, hown, hts⟩ (c_X9_init l D cI cJ cS cV q1 H.size) ⟨w_775, w_776, w_58, w_777⟩ rfl (by decide +kernel) rfl rfl ⟨Nat.le_of_ble_eq_true rfl, Nat.le_of_ble_eq_true rfl⟩ ⟨Nat.le_of_ble_eq_true rfl, Nat.le_of_ble_eq_true rfl⟩ iPre_blind (iPre_call hP hK) hS hF rfl rfl hl.1 (Nat.le_of_ble_eq_true rfl) dL_law_12 (fun H1 locs hB hk1 hS => ?_)
  obtain ⟨xb, eb, hG⟩ := hB
  obtain ⟨hP1, hD1⟩ := hG xa xav xas
  obtain ⟨hP, hD⟩ := join_last hP hD hk1 hF hP1 hD1
  clear hP1 hD1 hk1 hF hG
  generalize H1 = H at hP hS ⊢
  have hP : va_P D vwCl (cG (D, (cI, cJ, cS, cV), xa, xav, xas, xb) gi0 gl0 ga0 vS0 vF0 sN0 sF0 ++ cM (D, (cI, cJ, cS, cV), xa, xav, xas, xb) mi0 ml0 ma0 mb0) H := hP
  have hD : va_D (fun q : Nat => s.heap.size ≤ q) (cG (D, (cI, cJ, cS, cV), xa, xav, xas, xb) gi0 gl0 ga0 vS0 vF0 sN0 sF0 ++ cM (D, (cI, cJ, cS, cV), xa, xav, xas, xb) mi0 ml0 ma0 mb0) := hD
  refine W.widen (k := 107) (n := 8251) (Nat.le_refl _) (Nat.le_refl _) ?_
  refine lv_astore_n (lv' := [(2, .ref q1), (1, .ref q0), (0, .ref b)]) hx hb dL_law_15 rfl hl (by decide) rfl (fun ls hl => ?_)
  refine lv_iconst (v := 0) hx hb dL_law_16 (by decide) ?_
  refine lv_istore_n (lv' := [(3, .int 0), (2, .ref q1), (1, .ref q0), (0, .ref b)]) hx hb dL_law_17 rfl hl (by decide) rfl (fun ls hl => ?_)
  have K : LCs s (D, (cI, cJ, cS, cV), xa, xav, xas, xb) := by
    refine ⟨hK, ?_, ?_, fun q hq => ?_, fun q hq => ?_, fun q h1 h2 => ?_, hZ⟩
    · show (gAd (D, (cI, cJ, cS, cV), xa, xav, xas, xb)).Nodup
      rw [← cG_ad (D, (cI, cJ, cS, cV), xa, xav, xas, xb) gi0 gl0 ga0 vS0 vF0 sN0 sF0]; exact D_nodup (D_L hD)
    · show (mAd (D, (cI, cJ, cS, cV), xa, xav, xas, xb)).Nodup
      rw [← cM_ad (D, (cI, cJ, cS, cV), xa, xav, xas, xb) mi0 ml0 ma0 mb0]; exact D_nodup (D_R hD)
    · refine D_in (D_L hD) ?_
      rw [cG_ad]; exact hq
    · refine D_in (D_R hD) ?_
      rw [cM_ad]; exact hq
    · refine D_dis hD (q := q) ?_ ?_
      · rw [cG_ad]; exact h1
      · rw [cM_ad]; exact h2
  rw [← ea, ← eb] at hl
  exact law_loop (X := (D, (cI, cJ, cS, cV), xa, xav, xas, xb)) C0 K hL 65 0 gi0 gl0 ga0 vS0 vF0 sN0 sF0 mi0 ml0 ma0 mb0 H _ ls (Nat.zero_le _) (by omega) (P_L hP) (P_R hP) Rel0 hS hl
