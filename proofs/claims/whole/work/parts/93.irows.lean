/-! rows of constructors -/
abbrev tys4 (cI cJ cS cV : ClassId) : List (ClassId × FieldType) := [(cI, .int), (cJ, .long), (cS, .object "GooseTrain$Strip"), (cV, .object "GooseTrain$Village")]
theorem RA_one {s : State} {cA cB : ClassId} {ty : FieldType} (h1 : va_RA s cA ty) (h2 : va_RA s cB ty) : cA = cB := by
  cases ty with
  | object C =>
    obtain ⟨_, _, _, _, _, a⟩ := h1
    obtain ⟨_, _, _, _, _, b⟩ := h2
    exact Option.some.inj (a.symm.trans b)
  | _ => exact Option.some.inj (Eq.trans (Eq.symm h1) h2)
theorem K_one {D : va_G} {cl : List vw_C} {tys : List (ClassId × FieldType)} {s : State} {cA cB : ClassId} {ty : FieldType} (h : va_K D cl (tys ++ [(cA, ty)]) s) {i : Nat} (h0 : tys[i]? = some (cB, ty)) : cA = cB := by
  have hl : i < tys.length := (List.getElem?_eq_some_iff.mp h0).1
  have e1 := (h.2 tys.length (cA, ty) (by rw [List.getElem?_append_right (Nat.le_refl _)]; simp)).2
  have e2 := (h.2 i (cB, ty) (by rw [List.getElem?_append_left hl]; exact h0)).2
  exact RA_one e1 e2
theorem P_mem {D : va_G} {cl : List vw_C} {ws : va_W} {H : Heap} (h : ∀ q ∈ ws, va_at D cl q H) : va_P D cl ws H := fun k q hk => h q (List.mem_of_getElem? hk)
theorem P_at {D : va_G} {cl : List vw_C} {ws : va_W} {H : Heap} (h : va_P D cl ws H) {q : Nat × va_E} (hq : q ∈ ws) : va_at D cl q H := by
  obtain ⟨i, hi⟩ := List.getElem?_of_mem hq
  exact h i q hi
theorem D_L {A : Nat → Prop} {w1 w2 : va_W} (h : va_D A (w1 ++ w2)) : va_D A w1 := by
  refine ⟨fun i j p q hi hj e => ?_, fun k q hk => ?_⟩
  · have li : i < w1.length := (List.getElem?_eq_some_iff.mp hi).1
    have lj : j < w1.length := (List.getElem?_eq_some_iff.mp hj).1
    exact h.1 i j p q (by rw [List.getElem?_append_left li]; exact hi) (by rw [List.getElem?_append_left lj]; exact hj) e
  · have lk : k < w1.length := (List.getElem?_eq_some_iff.mp hk).1
    exact h.2 k q (by rw [List.getElem?_append_left lk]; exact hk)
/-- behind a constructor's call: the cells ahead of the new one stay -/
theorem join_last {A0 : Nat → Prop} {D : va_G} {cl : List vw_C} {ws w1 : va_W} {x : Nat × va_E} {H H1 : Heap} (hP : va_P D cl (ws ++ [x]) H) (hD : va_D A0 (ws ++ [x]))
    (hk : ∀ q : Nat, q < H.size → ¬ va_A [x] H.size q → H1[q]? = H[q]?) (hF : ∀ q, va_A [x] H.size q → A0 q) (hP1 : va_P D cl w1 H1) (hD1 : va_D (va_A [x] H.size) w1) : va_P D cl (ws ++ w1) H1 ∧ va_D A0 (ws ++ w1) := by
  have apart : ∀ (k : Nat) (q : Nat × va_E), ws[k]? = some q → q.1 < H.size ∧ ¬ va_A [x] H.size q.1 := by
    intro k q hq
    have lk : k < ws.length := (List.getElem?_eq_some_iff.mp hq).1
    have hq2 : (ws ++ [x])[k]? = some q := by rw [List.getElem?_append_left lk]; exact hq
    have hl := (hP k q hq2).lt
    refine ⟨hl, fun h => ?_⟩
    rcases h with ⟨j, e, h⟩ | h
    · have hj : j = 0 := by
        have := (List.getElem?_eq_some_iff.mp h).1
        simp at this; omega
      subst hj
      have hx : (ws ++ [x])[ws.length]? = some x := by rw [List.getElem?_append_right (Nat.le_refl _)]; simp
      have ex : x = (q.1, e) := by simpa using h
      have := hD.1 k ws.length q x hq2 hx (by rw [ex])
      omega
    · omega
  refine ⟨va_P.app (fun k q hq => ?_) hP1, va_D.app (D_L hD) (hD1.weaken (fun k q _ h => hF q.1 h)) (fun i j p q hp hq hpq => ?_)⟩
  · have lk : k < ws.length := (List.getElem?_eq_some_iff.mp hq).1
    obtain ⟨g1, g2⟩ := apart k q hq
    exact (hP k q (by rw [List.getElem?_append_left lk]; exact hq)).kept (hk q.1 g1 g2)
  · exact (apart i p hp).2 (by rw [hpq]; exact hD1.2 j q hq)
theorem free_last {A0 : Nat → Prop} {ws : va_W} {x : Nat × va_E} {H0 H : Heap} {locs : List Loc} (hD : va_D A0 (ws ++ [x])) (hS : va_S A0 H0 H locs) (hA : ∀ q, H0.size ≤ q → A0 q) : ∀ q, va_A [x] H.size q → A0 q := by
  intro q h
  rcases h with ⟨j, e, h⟩ | h
  · have hj : j = 0 := by
      have := (List.getElem?_eq_some_iff.mp h).1
      simp at this; omega
    subst hj
    have hx : (ws ++ [x])[ws.length]? = some x := by rw [List.getElem?_append_right (Nat.le_refl _)]; simp
    have ex : x = (q, e) := by simpa using h
    have := hD.2 ws.length x hx
    rw [ex] at this
    exact this
  · exact hA q (Nat.le_trans hS.1 h)
theorem P_last {D : va_G} {cl : List vw_C} {ws : va_W} {x : Nat × va_E} {H : Heap} (hP : va_P D cl (ws ++ [x]) H) : va_P D cl [x] H := P_mem (fun q hq => P_at hP (by rw [List.mem_append]; exact Or.inr hq))
theorem D_self {x : Nat × va_E} {sz : Nat} : va_D (va_A [x] sz) [x] := by
  refine ⟨fun i j p q hi hj _ => ?_, fun k q hk => va_A.in hk⟩
  have := (List.getElem?_eq_some_iff.mp hi).1
  have := (List.getElem?_eq_some_iff.mp hj).1
  simp at *; omega
/-- another writing of what an array holds -/
theorem P_re {D : va_G} {cl : List vw_C} {ws : va_W} {H : Heap} (hP : va_P D cl ws H) {k q : Nat} {cA : ClassId} {a a' : vp_A} (h : ws[k]? = some (q, .inl (cA, a))) (e : vp_cell cA a = vp_cell cA a') : va_P D cl (ws.set k (q, .inl (cA, a'))) H := by
  intro i x hx
  by_cases ik : k = i
  · subst ik
    have lk : k < ws.length := (List.getElem?_eq_some_iff.mp h).1
    rw [List.getElem?_set_self lk] at hx
    cases hx
    have := hP k _ h
    show H[q]? = some (vp_cell cA a')
    rw [← e]; exact this
  · rw [List.getElem?_set_ne ik] at hx
    exact hP i x hx
theorem aR_cell {cA : ClassId} {n : Nat} {f g : Nat → Option Nat} (h : ∀ j, j < n → f j = g j) : vp_cell cA (n, .inr (.inr (.inr (.inr f)))) = vp_cell cA (n, .inr (.inr (.inr (.inr g)))) := by
  rw [vp_cell_q, vp_cell_q]
  unfold arrV
  congr 1
  apply Array.ext
  · simp
  · intro i h1 h2
    simp at h1
    simp [h i h1]
section
variable {p : Program} {l : Launch} {e : Env} {R : Room} {s : State} {m : MethodId} {args : Array Value} {below : List Frame} {meth : Method} {c : Code} {H : Heap} {locs : List Loc} {cells slots : Nat} {Q : State → Prop} {cc : ByteArray} {pc : Nat} {ls : Array Slot} {rest : List Value}
variable {D : va_G} {tys : List (ClassId × FieldType)} {ws : va_W} {A : Nat → Prop} {H0 : Heap}
theorem nwI (hx : p.tables.exec = Jvm.exec) (hb : c.code = cc) (hT : ∀ w ∈ gT, w.before args s = true) (hK : va_K D vwCl tys s) {cI : ClassId} (h0 : tys[0]? = some (cI, .int)) (hP : va_P D vwCl ws H) (hD : va_D A ws) (hS : va_S A H0 H locs) (hA : ∀ q, H0.size ≤ q → A q) {n : Int32} (N : Nat) (hn : ¬ n < 0) (hN : n.toNatClampNeg = N) (hby : N * 4 ≤ 536870912) (hcells : cells + 1 ≤ R.cells) (hslots : slots + N ≤ R.slots) (hdg : decode cc pc = .ok (.newarray .int, 2))
    (kk : ∀ (q : Nat) (H1 : Heap), va_P D vwCl (ws ++ [(q, aI cI N (fun _ => 0))]) H1 → va_D A (ws ++ [(q, aI cI N (fun _ => 0))]) → va_S A H0 H1 locs → W p l e R s m args below meth c H1 locs (cells + 1) (slots + N) Q (F0 m (pc + 2) ls (.ref q :: rest))) : W p l e R s m args below meth c H locs cells slots Q (F0 m pc ls (.int n :: rest)) := by
  refine va_newa (atype := .int) (a0 := (N, .inl (fun _ => 0))) hx hb (hT _ w_135) rfl hK hP hD hS hA (fun _ => rfl) hn hN hby hcells hslots hdg (fun q cA H1 hK1 hP1 hD1 hS1 => ?_)
  have ec := K_one hK1 h0
  subst ec
  exact kk q H1 hP1 hD1 hS1
theorem nwL (hx : p.tables.exec = Jvm.exec) (hb : c.code = cc) (hT : ∀ w ∈ gT, w.before args s = true) (hK : va_K D vwCl tys s) {cJ : ClassId} (h0 : tys[1]? = some (cJ, .long)) (hP : va_P D vwCl ws H) (hD : va_D A ws) (hS : va_S A H0 H locs) (hA : ∀ q, H0.size ≤ q → A q) {n : Int32} (N : Nat) (hn : ¬ n < 0) (hN : n.toNatClampNeg = N) (hby : N * 8 ≤ 536870912) (hcells : cells + 1 ≤ R.cells) (hslots : slots + N ≤ R.slots) (hdg : decode cc pc = .ok (.newarray .long, 2))
    (kk : ∀ (q : Nat) (H1 : Heap), va_P D vwCl (ws ++ [(q, aL cJ N (fun _ => 0))]) H1 → va_D A (ws ++ [(q, aL cJ N (fun _ => 0))]) → va_S A H0 H1 locs → W p l e R s m args below meth c H1 locs (cells + 1) (slots + N) Q (F0 m (pc + 2) ls (.ref q :: rest))) : W p l e R s m args below meth c H locs cells slots Q (F0 m pc ls (.int n :: rest)) := by
  refine va_newa (atype := .long) (a0 := (N, .inr (.inl (fun _ => 0)))) hx hb (hT _ w_903) rfl hK hP hD hS hA (fun _ => rfl) hn hN hby hcells hslots hdg (fun q cA H1 hK1 hP1 hD1 hS1 => ?_)
  have ec := K_one hK1 h0
  subst ec
  exact kk q H1 hP1 hD1 hS1
theorem nwQ {own C : String} {index : Nat} (hx : p.tables.exec = Jvm.exec) (hb : c.code = cc) (hT : ∀ w ∈ gT, w.before args s = true) (hown : s.vm.findClass own = some m.cls) (hcl : Cond.classLink own index C ∈ gT) (hover : va_AO C s) (hK : va_K D vwCl tys s) {cQ : ClassId} {t0 : Nat} (h0 : tys[t0]? = some (cQ, .object C)) (hP : va_P D vwCl ws H) (hD : va_D A ws) (hS : va_S A H0 H locs) (hA : ∀ q, H0.size ≤ q → A q) {n : Int32} (N : Nat) (hn : ¬ n < 0) (hN : n.toNatClampNeg = N) (hby : N * 4 ≤ 536870912) (hcells : cells + 1 ≤ R.cells) (hslots : slots + N ≤ R.slots) (hdg : decode cc pc = .ok (.anewarray index, 3))
    (kk : ∀ (q : Nat) (H1 : Heap), va_P D vwCl (ws ++ [(q, aR cQ N (fun _ => none))]) H1 → va_D A (ws ++ [(q, aR cQ N (fun _ => none))]) → va_S A H0 H1 locs → W p l e R s m args below meth c H1 locs (cells + 1) (slots + N) Q (F0 m (pc + 3) ls (.ref q :: rest))) : W p l e R s m args below meth c H locs cells slots Q (F0 m pc ls (.int n :: rest)) := by
  refine va_newq hx hb hown (hT _ hcl) hover hK hP hD hS hA hn hN hby hcells hslots hdg (fun q cA H1 hK1 hP1 hD1 hS1 => ?_)
  have ec := K_one hK1 h0
  subst ec
  exact kk q H1 hP1 hD1 hS1
theorem icE {A A0 : Nat → Prop} {Bn : Heap → Prop} {st0 : List Value} {a : Array Value} {mc ms : Nat} (hr : va_Run p l e R s m args below meth c H locs cells slots mc ms (F0 m pc ls st0) rest (wQ none Bn A a) A) (hS : va_S A0 H0 H locs) (hAA : ∀ q, A q → A0 q)
    (kk : ∀ (H1 : Heap) (locs1 : List Loc), Bn H1 → (∀ q : Nat, q < H.size → ¬ A q → H1[q]? = H[q]?) → va_S A0 H0 H1 locs1 → W p l e R s m args below meth c H1 locs1 (cells + mc) (slots + ms) Q (F0 m (pc + 3) ls rest)) : W p l e R s m args below meth c H locs cells slots Q (F0 m pc ls st0) := by
  intro T hT X
  obtain ⟨v, st₀, t, T', L, h0, X', hL, e1, e2, ⟨hv, hb, hz, hk⟩, st⟩ := hr T hT X
  cases hv
  rw [h0] at hz hk
  obtain ⟨t2, a1, b1⟩ := kk T'.heap (locs ++ L) (by rw [e1]; exact hb) (fun q h1 h2 => by rw [e1]; exact hk q h1 h2)
    ⟨Nat.le_trans hS.1 (by rw [e1]; exact hz), fun q h1 h2 => by rw [e1, hk q (Nat.lt_of_lt_of_le h1 hS.1) (fun z => h2 (hAA q z))]; exact hS.2.1 q h1 h2, fun q hq => by
      rcases List.mem_append.mp hq with h | h
      · exact hS.2.2 q h
      · exact hAA _ (hL q h)⟩ T' rfl X'
  exact ⟨t2, st t2 a1, b1⟩
/-- a constructor of a nest mate -/
theorem icN {own host : String} {index n maxL nL b mc ms : Nat} {y : MethodName} {bytes : ByteArray} {rm : Room} {c0 : Cond} {B : State → Prop} {As st0 : List Value} {A A0 : Nat → Prop} {Bn : Heap → Prop}
    (S : CallFix p m c cc nL s args (c0 :: gT) own) (hM : Met l y (Cond.code y bytes maxL none :: gT) rm (va_Pc (.ref b :: As) B) (wQ none Bn A) mc ms A)
    (hw : Cond.instanceMethod y ∈ gT ∧ Cond.initialized y.cls ∈ gT ∧ Cond.code y bytes maxL none ∈ gT) (hl : va_Nw (.methodLinkNest own index y host) s) (hnm : y.name = "<init>")
    (hd : y.cls ≠ "java/lang/invoke/MethodHandle" ∧ y.cls ≠ "java/lang/invoke/VarHandle" ∧ (parseMethodDescriptor y.desc).map (fun d => d.parameters.length) = some n)
    (hrc : rm.cells = mc) (hrs : rm.slots = ms) (hR : rm.frames + 1 ≤ R.frames ∧ 8 + (maxL + 11) + rm.locals ≤ R.locals) (hf : cells + mc ≤ R.cells ∧ slots + ms ≤ R.slots)
    (hbl : ∀ (U : State) (g : JFrame) (mk : MethodId) (a : Array Value), B U → B (U.calling g mk a))
    (hB : ∀ U : State, U.heap = H → s.WarmedH U.vm → B U) (hS : va_S A0 H0 H locs) (hAA : ∀ q, A q → A0 q) (hst : st0 = As.reverse ++ .ref b :: rest) (hn : As.length = n) (hls : ls.size = nL) (hcat : (rest.map fun v => v.category).sum ≤ 8) (hdg : decode cc pc = .ok (.invokespecial index, 3))
    (kk : ∀ (H1 : Heap) (locs1 : List Loc), Bn H1 → (∀ q : Nat, q < H.size → ¬ A q → H1[q]? = H[q]?) → va_S A0 H0 H1 locs1 → W p l e R s m args below meth c H1 locs1 (cells + mc) (slots + ms) Q (F0 m (pc + 3) ls rest)) : W p l e R s m args below meth c H locs cells slots Q (F0 m pc ls st0) := by
  have gg : ∀ w ∈ gT, w ∈ (c0 :: gT) ∧ ((w.onTables && w.keeps) = true ∨ ∃ ty, w = .arrayClass ty) := gT_good c0
  have ht := S.2.2.2.2
  obtain ⟨h1, h2, h3⟩ := hw
  have cw : va_CN R s args own index y host bytes maxL none (Cond.code y bytes maxL none :: gT) rm mc ms n := va_cnB n ht (fun w h => by
    rcases List.mem_cons.mp h with h | h
    · subst h; exact gg _ h3
    · exact gg _ h) rfl hrc hrs hl (ht _ (gg _ h2).1) hd hR
  exact icE (va_runIN (As := As) (rest := rest) S hM ⟨cw, hnm, ht _ (gg _ h1).1⟩ ⟨fun a U g mk q => ⟨q.1, hbl U g mk a q.2⟩, fun U hU hW => ⟨rfl, hB U hU hW⟩⟩ rfl hn hls hst (lv_room hcat) hdg hf) hS hAA kk
/-- a constructor by its link -/
theorem icL {own : String} {index n maxL nL b mc ms : Nat} {y : MethodName} {bytes : ByteArray} {rm : Room} {c0 : Cond} {B : State → Prop} {As st0 : List Value} {A A0 : Nat → Prop} {Bn : Heap → Prop}
    (S : CallFix p m c cc nL s args (c0 :: gT) own) (hM : Met l y (Cond.code y bytes maxL none :: gT) rm (va_Pc (.ref b :: As) B) (wQ none Bn A) mc ms A)
    (hw : Cond.methodLink own index y ∈ gT ∧ Cond.instanceMethod y ∈ gT ∧ Cond.initialized y.cls ∈ gT ∧ Cond.code y bytes maxL none ∈ gT) (hnm : y.name = "<init>")
    (hd : y.cls ≠ "java/lang/invoke/MethodHandle" ∧ y.cls ≠ "java/lang/invoke/VarHandle" ∧ (parseMethodDescriptor y.desc).map (fun d => d.parameters.length) = some n)
    (hrc : rm.cells = mc) (hrs : rm.slots = ms) (hR : rm.frames + 1 ≤ R.frames ∧ 8 + (maxL + 11) + rm.locals ≤ R.locals) (hf : cells + mc ≤ R.cells ∧ slots + ms ≤ R.slots)
    (hbl : ∀ (U : State) (g : JFrame) (mk : MethodId) (a : Array Value), B U → B (U.calling g mk a))
    (hB : ∀ U : State, U.heap = H → s.WarmedH U.vm → B U) (hS : va_S A0 H0 H locs) (hAA : ∀ q, A q → A0 q) (hst : st0 = As.reverse ++ .ref b :: rest) (hn : As.length = n) (hls : ls.size = nL) (hcat : (rest.map fun v => v.category).sum ≤ 8) (hdg : decode cc pc = .ok (.invokespecial index, 3))
    (kk : ∀ (H1 : Heap) (locs1 : List Loc), Bn H1 → (∀ q : Nat, q < H.size → ¬ A q → H1[q]? = H[q]?) → va_S A0 H0 H1 locs1 → W p l e R s m args below meth c H1 locs1 (cells + mc) (slots + ms) Q (F0 m (pc + 3) ls rest)) : W p l e R s m args below meth c H locs cells slots Q (F0 m pc ls st0) := by
  have gg : ∀ w ∈ gT, w ∈ (c0 :: gT) ∧ ((w.onTables && w.keeps) = true ∨ ∃ ty, w = .arrayClass ty) := gT_good c0
  have ht := S.2.2.2.2
  obtain ⟨h1, h2, h3, h4⟩ := hw
  have cw := callB_of (own := own) (index := index) (R := R) n ht (ws := Cond.code y bytes maxL none :: gT) (fun w h => by
    rcases List.mem_cons.mp h with h | h
    · subst h; exact gg _ h4
    · exact gg _ h) rfl hrc hrs (ht _ (gg _ h3).1) (ht _ (gg _ h1).1) hd hR
  exact icE (va_runI (As := As) (rest := rest) S hM ⟨cw, hnm, ht _ (gg _ h2).1⟩ ⟨fun a U g mk q => ⟨q.1, hbl U g mk a q.2⟩, fun U hU hW => ⟨rfl, hB U hU hW⟩⟩ rfl hn hls hst (lv_room hcat) hdg hf) hS hAA kk
end
/-- what a constructor needs: its new cell, the tables -/
def iPre (D : va_G) (tys : List (ClassId × FieldType)) (x : Nat × va_E) (sz : Nat) (U : State) : Prop := U.heap.size = sz ∧ va_P D vwCl [x] U.heap ∧ va_K D vwCl tys U
theorem iPre_blind {D : va_G} {tys : List (ClassId × FieldType)} {x : Nat × va_E} {sz : Nat} (U : State) (g : JFrame) (mk : MethodId) (a : Array Value) (h : iPre D tys x sz U) : iPre D tys x sz (U.calling g mk a) := ⟨h.1, h.2.1, va_K.moved (u := U) (U := U.calling g mk a) (Vm.Alike.refl U.vm) h.2.2⟩
theorem iPre_call {D : va_G} {tys : List (ClassId × FieldType)} {ws : va_W} {x : Nat × va_E} {s : State} {H : Heap} (hP : va_P D vwCl (ws ++ [x]) H) (hK : va_K D vwCl tys s) (U : State) (hU : U.heap = H) (hW : s.WarmedH U.vm) : iPre D tys x H.size U := ⟨by rw [hU], by rw [hU]; exact P_last hP, va_K.moved hW.alike hK⟩
