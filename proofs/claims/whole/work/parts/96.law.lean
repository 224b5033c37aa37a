/-! THE CLAIM OUT OF ONE WALK OF THE LAW'S BODY. Your part is whole_start (and what it stands on); all else here is the same for every law, but numbers. -/
def R_law : String := "GooseTrainLaw"
def lw_P (b : Addr) (xs : List Int32) (args : Array Value) (s : State) : Prop := args = #[.ref b] ∧ s.IntsAt b xs ∧ xs.length ≤ 384 ∧ (Jvm.Cond.and given_1 narrow_1).before args s = true
def lw_Q (_ : Array Value) (s : State) (o : Outcome) (t : State) : Prop := o = .returned (some (.int 1)) ∧ Framed s o t [] 600000 7302250
def lw_Z (below : List Frame) (a : Array Value) (s : State) : State → Prop := fun t => ∃ o, t.status = .running ∧ Ended t below o ∧ lw_Q a s o t
/-- the law's own end, with 1 on the stack, nothing written that was there before, its room as the claim has it -/
theorem lw_ret {p : Program} {l : Launch} {e : Env} {s : State} {m : MethodId} {below : List Frame} {meth : Method} {c : Code} {b : Nat} (hx : p.tables.exec = Jvm.exec) (hb : c.code = code) (hr : meth.sig.returnType = ret) (hlocks : meth.locks = false) {pc : Nat} {H : Heap} {ls : Array Slot} (hdg : decode code pc = .ok (.ireturn, 1)) : W p l e room_1 s m #[Value.ref b] below meth c H [] 600000 7302250 (lw_Z below #[Value.ref b] s) (F0 m pc ls [.int 1]) := by
  intro T hT X
  obtain ⟨fs, hret, hrun, hended, hW, hframe⟩ := X.leave (v := some (.int 1)) (hlocks := hlocks) (fun h => by rw [hr] at h; cases h)
  have hmeth' : T.vm.method? m = some meth := X.method'
  refine ⟨T.setFrames fs, ?_, .returned (some (.int 1)), hrun, hended, rfl, ⟨_, rfl⟩, hW, hframe⟩
  jvm_step X.here [X.here.top, hx, hb, hdg, hmeth', hr, ret, narrow_b1]
  (try refine ⟨rfl, ?_⟩); (try refine ⟨rfl, ?_⟩)
  first | (intro acts; rw [hret _ acts rfl rfl rfl]) | rw [hret _ _ rfl rfl rfl]
  exact Steps.refl _
/-- what holds at the law's entry: the machine, the code, the tables' words (any of lw_tbl by 'hts w (by decide +kernel)'), the script of L ints xs at the cell b, what the Statement gives of the start (any of its parts by flat_of_before) -/
def lw_At (p : Program) (s : State) (m : MethodId) (meth : Method) (c : Code) (b L : Nat) (xs : Nat → Int32) : Prop :=
  p.tables.exec = Jvm.exec ∧ c.code = code ∧ meth.sig.returnType = ret ∧ c.maxLocals = 4 ∧ s.vm.findClass R_law = some m.cls ∧ (∀ w ∈ lw_tbl, w.before #[Value.ref b] s = true) ∧ va_X b L xs s s.heap ∧ b < s.heap.size ∧ meth.locks = false ∧ (Jvm.Cond.and given_1 narrow_1).before #[Value.ref b] s = true

/-! rows of the law -/
theorem lw_hts {s : State} {b : Nat} (h : ∀ w ∈ lw_tbl, w.before #[Value.ref b] s = true) : ∀ w ∈ (Cond.initialized RX8 :: gT), w.before #[Value.ref b] s = true := by
  have g : ∀ w ∈ gT, w.before #[Value.ref b] s = true := fun w hw => h w (List.mem_filter.mp hw).1
  intro w hw
  rcases List.mem_cons.mp hw with q | q
  · subst q; exact g _ w_52
  · exact g w q
theorem lg_self (x : Int64) : lg_cmp x x = 0 := by
  unfold lg_cmp
  rw [if_neg (show ¬ x > x from fun q => by have := Int64.lt_iff_toInt_lt.mp q; omega), if_pos rfl]
/-- what stays the same over a run of the law -/
def LCs (s : State) (X : gX) : Prop := va_K X.1 vwCl (gTy X) s ∧ gN X ∧ mN X ∧ (∀ q, gA X q → s.heap.size ≤ q) ∧ (∀ q, mA X q → s.heap.size ≤ q) ∧ (∀ q, gA X q → ¬ mA X q) ∧ gZ (fun q => s.heap.size ≤ q) s s.heap
section
variable {s : State} {X : gX} {H H1 : Heap} {locs : List Loc} {gi : Nat → Int32} {gl : Nat → Int64} {ga : Nat → Nat → Int32} {vS : Nat → Nat → Int32} {vF : Nat → Nat → Nat → Int32} {sN : Nat → Int32} {sF : Nat → Nat → Int32} {mi : Nat → Int32} {ml : Nat → Int64} {ma : Nat → Nat → Int32} {mb : Nat → Nat → Int64}
theorem gPre_law (K : LCs s X) (hP : va_P X.1 vwCl (cG X gi gl ga vS vF sN sF) H) (hS : va_S (fun q => s.heap.size ≤ q) s.heap H locs) (U : State) (hU : U.heap = H) (hW : s.WarmedH U.vm) : gPre X gi gl ga vS vF sN sF U :=
  ⟨by rw [hU]; exact hP, va_K.moved hW.alike K.1, K.2.1, by rw [hU]; exact gZ.moved hW.alike ((K.2.2.2.2.2.2.kept (fun a h1 h2 => hS.2.1 a h1 h2)).narrow K.2.2.2.1)⟩
theorem keepM (K : LCs s X) (hP : va_P X.1 vwCl (cM X mi ml ma mb) H) (hk : ∀ q : Nat, q < H.size → ¬ gA X q → H1[q]? = H[q]?) : va_P X.1 vwCl (cM X mi ml ma mb) H1 :=
  hP.kept (fun k q hq => hk q.1 (hP k q hq).lt (fun z => K.2.2.2.2.2.1 q.1 z (by
    unfold mA
    rw [← cM_ad X mi ml ma mb]
    exact List.mem_map.mpr ⟨q, List.mem_of_getElem? hq, rfl⟩)))
theorem keepG (K : LCs s X) (hP : va_P X.1 vwCl (cG X gi gl ga vS vF sN sF) H) (hk : ∀ q : Nat, q < H.size → ¬ mA X q → H1[q]? = H[q]?) : va_P X.1 vwCl (cG X gi gl ga vS vF sN sF) H1 :=
  hP.kept (fun k q hq => hk q.1 (hP k q hq).lt (fun z => K.2.2.2.2.2.1 q.1 (by
    unfold gA
    rw [← cG_ad X gi gl ga vS vF sN sF]
    exact List.mem_map.mpr ⟨q, List.mem_of_getElem? hq, rfl⟩) z))
end
