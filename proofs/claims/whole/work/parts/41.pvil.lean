/-! the village, as both sides show it -/
/-- the class's village shows these numbers -/
def CV (P : Nat) (k t l h a : Nat → Int32) (d : Int32) (vS : Nat → Nat → Int32) (vF : Nat → Nat → Nat → Int32) : Prop :=
  vS 0 0 = nI P ∧ vS 0 1 = d ∧ ∀ x, x < P → vF 0 0 x = k x ∧ vF 0 1 x = t x ∧ vF 0 3 x = l x ∧ vF 0 4 x = h x ∧ vF 0 5 x = a x
/-- the reference's likewise -/
def MV (P : Nat) (k t l h a : Nat → Int32) (d : Int32) (mi : Nat → Int32) (ma : Nat → Nat → Int32) : Prop :=
  mi 0 = nI P ∧ mi 1 = d ∧ ∀ x, x < P → ma 0 x = k x ∧ ma 1 x = t x ∧ ma 4 x = l x ∧ ma 2 x = h x ∧ ma 3 x = a x
def stk (D : Nat → Nat) : Nat → Bool := fun x => decide (D x ≠ 0)
/-- they are as they can be; D: how deep each one is -/
def OKV (P : Nat) (k t h a : Nat → Int32) (D : Nat → Nat) : Prop :=
  P ≤ 7 ∧ (∀ x, x < P → ∃ z, z < 6 ∧ k x = nI z) ∧ (∀ x, x < P → ∃ z, 1 ≤ z ∧ z ≤ 8 ∧ t x = nI z) ∧
  (∀ x, x < P → (h x = -9 ∧ D x = 0) ∨ (h x = 9 ∧ D x = 1) ∨ ∃ y, y < P ∧ h x = nI y ∧ 1 ≤ D y ∧ D x = D y + 1) ∧
  (∀ x, x < P → D x ≤ cnt (stk D) P) ∧ (∀ x, x < P → (a x = -9 ∧ D x = 0) ∨ ((a x = 0 ∨ a x = 1) ∧ D x ≠ 0))
theorem nI_ne9 {x : Nat} (h : x < 7) : nI x ≠ -9 ∧ nI x ≠ 9 := by
  have : ∀ y, y < 7 → nI y ≠ -9 ∧ nI y ≠ 9 := by decide +kernel
  exact this x h
theorem OKV.stuck {P : Nat} {k t h a : Nat → Int32} {D : Nat → Nat} (o : OKV P k t h a D) {x : Nat} (hx : x < P) : h x = -9 ↔ D x = 0 := by
  obtain ⟨h7, -, -, hh, -⟩ := o
  rcases hh x hx with ⟨h1, h2⟩ | ⟨h1, h2⟩ | ⟨y, hy, h1, h2, h3⟩
  · simp [h1, h2]
  · rw [h1]; simp [h2]
  · rw [h1]
    constructor
    · intro q; exact absurd q (nI_ne9 (by omega)).1
    · omega
theorem OKV.d7 {P : Nat} {k t h a : Nat → Int32} {D : Nat → Nat} (o : OKV P k t h a D) {x : Nat} (hx : x < P) : D x ≤ 7 :=
  Nat.le_trans (o.2.2.2.2.1 x hx) (Nat.le_trans (cnt_le _ _) o.1)
/-- a number that is one of PEOPLE -/
def prs (P : Nat) (x : Int32) : Prop := 0 ≤ x.toInt ∧ x.toInt < P
theorem prs_nI {P x : Nat} (hP : P ≤ 7) : prs P (nI x) → x < 2 ^ 31 → x < P := fun h hx => by
  have := h.2; rw [toI_nI hx] at this; omega
theorem prs_of {P x : Nat} (hP : P ≤ 7) (h : x < P) : prs P (nI x) := by
  rw [prs, toI_nI (by omega)]; omega
theorem prs_ex {P : Nat} {x : Int32} (hP : P ≤ 7) (h : prs P x) : ∃ z, z < P ∧ x = nI z := by
  rcases pk_ix x (n := P) (by omega) with q | q | q
  · have := Int32.lt_iff_toInt_lt.mp q
    have z : (0 : Int32).toInt = 0 := rfl
    have := h.1; omega
  · have := Int32.le_iff_toInt_le.mp q
    rw [toI_nI (by omega)] at this
    have := h.2; omega
  · exact q
section
variable {P : Nat} {k t l h a : Nat → Int32} {d : Int32} {vS : Nat → Nat → Int32} {vF : Nat → Nat → Nat → Int32} {D : Nat → Nat} {mi : Nat → Int32} {ma : Nat → Nat → Int32}
theorem isPersonC (hS : vS 0 0 = nI P) (hP : P ≤ 7) (x : Int32) : X7_isPerson vS x = some (if 0 ≤ x.toInt ∧ x.toInt < P then 1 else 0) := by
  rw [X7_isPerson, hS, iL 7]
  simp only [Int32.lt_iff_toInt_lt, Int32.le_iff_toInt_le, toI_nI (show P < 2 ^ 31 by omega), toI_nI (show 7 < 2 ^ 31 by omega), show (0 : Int32).toInt = 0 from rfl]
  by_cases h : 0 ≤ x.toInt ∧ x.toInt < P
  · rw [if_pos h, if_neg (by omega), if_neg (by omega), if_neg (by omega)]
  · rw [if_neg h]
    split
    · rfl
    · split
      · rfl
      · rw [if_pos (by omega)]
theorem isPersonC1 (hS : vS 0 0 = nI P) (hP : P ≤ 7) {x : Nat} (hx : x < P) : X7_isPerson vS (nI x) = some 1 := by
  rw [isPersonC hS hP, if_pos (show 0 ≤ (nI x).toInt ∧ (nI x).toInt < ↑P from prs_of hP hx)]
theorem isOneM (hS : mi 0 = nI P) (hP : P ≤ 7) (x : Int32) : X9_isOne mi x = some (if 0 ≤ x.toInt ∧ x.toInt < P then 1 else 0) := by
  rw [X9_isOne, hS, inI x 0 _ 0 (P - 1) rfl (by rw [ti64]; exact toI_m1 (by omega)), Option.bind_some]
  by_cases h : 0 ≤ x.toInt ∧ x.toInt < P
  · rw [if_pos h, if_pos (by omega)]; rfl
  · rw [if_neg h, if_neg (by omega)]; rfl
theorem isOneM1 (hS : mi 0 = nI P) (hP : P ≤ 7) {x : Nat} (hx : x < P) : X9_isOne mi (nI x) = some 1 := by
  rw [isOneM hS hP, if_pos (show 0 ≤ (nI x).toInt ∧ (nI x).toInt < ↑P from prs_of hP hx)]
theorem isStuckC (c : CV P k t l h a d vS vF) (o : OKV P k t h a D) {x : Nat} (hx : x < P) : X7_isStuck vS vF (nI x) = some (if D x = 0 then 0 else 1) := by
  have h7 := o.1
  rw [X7_isStuck, c.1, iL 7, if_neg (nI_pos (by omega)), if_neg (nI_ge hx (by omega)), if_neg (nI_ge (by omega) (by omega)), gd_nI (by omega) (by omega), cl_nI (by omega), (c.2.2 x hx).2.2.2.1]
  by_cases hd : D x = 0
  · rw [if_pos ((o.stuck hx).mpr hd), if_pos hd]
  · rw [if_neg (fun q => hd ((o.stuck hx).mp q)), if_neg hd]
theorem isStuckC0 (c : CV P k t l h a d vS vF) (o : OKV P k t h a D) {x : Int32} (hx : ¬ prs P x) : X7_isStuck vS vF x = some 0 := by
  have h7 := o.1
  unfold prs at hx
  rw [X7_isStuck, c.1, iL 7]
  simp only [Int32.lt_iff_toInt_lt, Int32.le_iff_toInt_le, toI_nI (show P < 2 ^ 31 by omega), toI_nI (show 7 < 2 ^ 31 by omega), show (0 : Int32).toInt = 0 from rfl]
  split
  · rfl
  · rw [if_pos (by omega)]
theorem not9 {P : Nat} (h : P ≤ 7) : ¬ prs P 9 := by unfold prs; show ¬ (0 ≤ (9 : Int) ∧ (9 : Int) < P); omega
theorem isStuckM (c : MV P k t l h a d mi ma) (o : OKV P k t h a D) {x : Nat} (hx : x < P) : X9_isStuck ma (nI x) = some (if D x = 0 then 0 else 1) := by
  have h7 := o.1
  rw [X9_isStuck, gd_nI (by omega) (by omega), cl_nI (by omega), (c.2.2 x hx).2.2.2.1]
  by_cases hd : D x = 0
  · rw [if_pos ((o.stuck hx).mpr hd), if_pos hd]
  · rw [if_neg (fun q => hd ((o.stuck hx).mp q)), if_neg hd]
theorem nI_bs (p : Nat → Bool) {i : Nat} (hi : i < 7) : nI (bset p (i + 1)) = if p i then nI (bset p i) ||| ((1 : Int32) <<< (nI i &&& 31)) else nI (bset p i) := by
  rw [bset]
  split
  · rw [or_bit _ (bset_lt7 (by omega)) i hi]
  · rfl
theorem or0 (x : Int32) : x ||| 0 = x := by simp
theorem stuckSetC (c : CV P k t l h a d vS vF) (o : OKV P k t h a D) : X7_stuckSet vS vF = some (nI (bset (stk D) P)) := by
  have h7 := o.1
  rw [X7_stuckSet]
  refine lu2 (X7_stuckSet_4 vS vF) (fun i => nI (bset (stk D) i)) nI P _ ?_ ?_ 0 500 (by omega) (by omega)
  · intro n i hi
    rw [X7_stuckSet_4, c.1, if_neg (nI_ge hi (by omega)), isStuckC c o hi, Option.bind_some, nI_1, nI_bs _ (by omega)]
    by_cases hd : D i = 0
    · simp [hd, stk]
    · simp [hd, stk]
  · intro n
    rw [X7_stuckSet_4, c.1, if_pos (nI_le (Nat.le_refl _) (by omega))]
theorem stuckSetM (c : MV P k t l h a d mi ma) (o : OKV P k t h a D) : X9_stuckSet mi ma = some (nI (bset (stk D) P)) := by
  have h7 := o.1
  rw [X9_stuckSet]
  refine lu2 (X9_stuckSet_4 mi ma) (fun i => nI (bset (stk D) i)) nI P _ ?_ ?_ 0 500 (by omega) (by omega)
  · intro n i hi
    rw [X9_stuckSet_4, c.1, if_neg (nI_ge hi (by omega)), isStuckM c o hi, Option.bind_some, nI_1, nI_bs _ (by omega), or0]
    by_cases hd : D i = 0
    · simp [hd, stk]
    · simp [hd, stk]
  · intro n
    rw [X9_stuckSet_4, c.1, if_pos (nI_le (Nat.le_refl _) (by omega))]
theorem stuckCountC (c : CV P k t l h a d vS vF) (o : OKV P k t h a D) : X7_stuckCount vS vF = some (nI (cnt (stk D) P)) := by
  rw [X7_stuckCount, stuckSetC c o, Option.bind_some, bitc _ (bset_lt7 o.1), Option.bind_some, pcn_bset o.1]
theorem bitsStuckM (o : OKV P k t h a D) : X9_bits (nI (bset (stk D) P)) = some (nI (cnt (stk D) P)) := by
  rw [bitsM _ (bset_lt7 o.1), pcn_bset o.1]
/-- who HANG ON one -/
def HS (h : Nat → Int32) (y : Int32) : Nat → Bool := fun x => decide (h x = y)
theorem hangersC (c : CV P k t l h a d vS vF) (o : OKV P k t h a D) {y : Int32} (hy : y ≠ -9) : X7_hangers vS vF y = some (nI (bset (HS h y) P)) := by
  have h7 := o.1
  rw [X7_hangers]
  refine lu3 (X7_hangers_4 vS vF) (fun _ => y) (fun i => nI (bset (HS h y) i)) nI P _ ?_ ?_ 0 500 (by omega) (by omega)
  · intro n i hi
    rw [X7_hangers_4, c.1, if_neg (nI_ge hi (by omega)), isStuckC c o hi, Option.bind_some, nI_1, nI_bs _ (by omega), gd_nI (by omega) (by omega), cl_nI (by omega), (c.2.2 i hi).2.2.2.1]
    by_cases hd : D i = 0
    · have e := (o.stuck hi).mpr hd
      have : HS h y i = false := by simp [HS, e, Ne.symm hy]
      simp [hd, this]
    · by_cases e : h i = y
      · simp [hd, HS, e]
      · simp [hd, HS, e]
  · intro n
    rw [X7_hangers_4, c.1, if_pos (nI_le (Nat.le_refl _) (by omega))]
theorem hangSetM (c : MV P k t l h a d mi ma) (o : OKV P k t h a D) (y : Int32) : X9_hangSet mi ma y = some (nI (bset (HS h y) P)) := by
  have h7 := o.1
  rw [X9_hangSet]
  refine lu3 (X9_hangSet_4 mi ma) (fun _ => y) (fun i => nI (bset (HS h y) i)) nI P _ ?_ ?_ 0 500 (by omega) (by omega)
  · intro n i hi
    rw [X9_hangSet_4, c.1, if_neg (nI_ge hi (by omega)), nI_1, nI_bs _ (by omega), gd_nI (by omega) (by omega), cl_nI (by omega), (c.2.2 i hi).2.2.2.1, or0]
    by_cases e : h i = y
    · simp [HS, e]
    · simp [HS, e]
  · intro n
    rw [X9_hangSet_4, c.1, if_pos (nI_le (Nat.le_refl _) (by omega))]
/-- how deep -/
theorem depthAuxM (c : MV P k t l h a d mi ma) (o : OKV P k t h a D) : ∀ (m x n b : Nat), x < P → D x = m + 1 → m + 1 < n → X9_depthOf_4 ma n (nI b) (nI x) = some (nI (b + (m + 1))) := by
  have h7 := o.1
  intro m
  induction m with
  | zero =>
    intro x n b hx hd hn
    obtain ⟨n, rfl⟩ : ∃ q, n = q + 2 := ⟨n - 2, by omega⟩
    rw [X9_depthOf_4, if_neg (nI_ne9 (by omega)).2, if_neg (nI_ne9 (by omega)).1, gd_nI (by omega) (by omega), cl_nI (by omega), (c.2.2 x hx).2.2.2.1, nI_1]
    rcases o.2.2.2.1 x hx with ⟨h1, h2⟩ | ⟨h1, h2⟩ | ⟨y, hy, h1, h2, h3⟩
    · omega
    · rw [h1, X9_depthOf_4]; simp
    · omega
  | succ m ih =>
    intro x n b hx hd hn
    obtain ⟨n, rfl⟩ : ∃ q, n = q + 1 := ⟨n - 1, by omega⟩
    rw [X9_depthOf_4, if_neg (nI_ne9 (by omega)).2, if_neg (nI_ne9 (by omega)).1, gd_nI (by omega) (by omega), cl_nI (by omega), (c.2.2 x hx).2.2.2.1, nI_1]
    rcases o.2.2.2.1 x hx with ⟨h1, h2⟩ | ⟨h1, h2⟩ | ⟨y, hy, h1, h2, h3⟩
    · omega
    · omega
    · rw [h1, ih y n (b + 1) hy (by omega) (by omega)]
      congr 2; omega
theorem depthM (c : MV P k t l h a d mi ma) (o : OKV P k t h a D) {x : Nat} (hx : x < P) : X9_depthOf ma (nI x) = some (nI (D x)) := by
  have h7 := o.1
  have hd7 := o.d7 hx
  rw [X9_depthOf]
  by_cases hd : D x = 0
  · rw [X9_depthOf_4, if_neg (nI_ne9 (by omega)).2, if_neg (nI_ne9 (by omega)).1, gd_nI (by omega) (by omega), cl_nI (by omega), (c.2.2 x hx).2.2.2.1, (o.stuck hx).mpr hd, X9_depthOf_4, hd]
    simp; rfl
  · obtain ⟨m, hm⟩ : ∃ q, D x = q + 1 := ⟨D x - 1, by omega⟩
    have := depthAuxM c o m x 500 0 hx hm (by omega)
    rw [Nat.zero_add] at this
    rw [hm]
    exact this
def chn (h : Nat → Int32) : Nat → Nat → Nat
  | 0, _ => 0
  | n + 1, x => 2 ^ x ||| chn h n (h x).toNatClampNeg
theorem p7 : ∀ x, x < 7 → 2 ^ x < 128 := by decide
theorem chn_lt (o : OKV P k t h a D) : ∀ (m x : Nat), x < P → D x = m → chn h m x < 128 := by
  have h7 := o.1
  intro m
  induction m with
  | zero => intro x _ _; simp [chn]
  | succ m ih =>
    intro x hx hd
    rw [chn]
    refine Nat.or_lt_two_pow (n := 7) (p7 x (by omega)) ?_
    rcases o.2.2.2.1 x hx with ⟨h1, h2⟩ | ⟨h1, h2⟩ | ⟨y, hy, h1, h2, h3⟩
    · omega
    · have : m = 0 := by omega
      subst this; simp [chn]
    · rw [h1, cl_nI (by omega)]; exact ih y hy (by omega)
theorem chn_bit (o : OKV P k t h a D) : ∀ (m x : Nat), x < P → D x = m → ∀ z, (chn h m x).testBit z = true → z < P ∧ 1 ≤ D z ∧ D z ≤ m ∧ (z ≠ x → D z < m) := by
  have h7 := o.1
  intro m
  induction m with
  | zero => intro x _ _ z hz; simp [chn] at hz
  | succ m ih =>
    intro x hx hd z hz
    rw [chn, Nat.testBit_or, Nat.testBit_two_pow] at hz
    by_cases e : x = z
    · subst e; exact ⟨hx, by omega, by omega, fun q => absurd rfl q⟩
    · simp only [e, decide_false, Bool.false_or] at hz
      rcases o.2.2.2.1 x hx with ⟨h1, h2⟩ | ⟨h1, h2⟩ | ⟨y, hy, h1, h2, h3⟩
      · omega
      · have : m = 0 := by omega
        subst this; simp [chn] at hz
      · rw [h1, cl_nI (by omega)] at hz
        obtain ⟨g1, g2, g3, -⟩ := ih y hy (by omega) z hz
        exact ⟨g1, g2, by omega, fun _ => by omega⟩
theorem chn_pc (o : OKV P k t h a D) : ∀ (m x : Nat), x < P → D x = m → pcn (chn h m x) = m := by
  have h7 := o.1
  intro m
  induction m with
  | zero => intro x _ _; rw [chn]; decide
  | succ m ih =>
    intro x hx hd
    rcases o.2.2.2.1 x hx with ⟨h1, h2⟩ | ⟨h1, h2⟩ | ⟨y, hy, h1, h2, h3⟩
    · omega
    · have : m = 0 := by omega
      subst this
      rw [chn, chn, Nat.or_comm, pcn_bit 0 (by omega) x (by omega) (by simp)]; decide
    · rw [chn, h1, cl_nI (by omega), Nat.or_comm, pcn_bit _ (chn_lt o m y hy (by omega)) x (by omega), ih y hy (by omega)]
      cases hb : (chn h m y).testBit x with
      | false => rfl
      | true =>
        have := (chn_bit o m y hy (by omega) x hb).2.2.1
        omega
theorem chainAuxC (c : CV P k t l h a d vS vF) (o : OKV P k t h a D) : ∀ (m x n s i : Nat), x < P → D x = m → i + m ≤ 7 → m < n → s < 128 → X7_chain_7 vS vF n (nI s) (nI x) (nI i) = some (nI (s ||| chn h m x)) := by
  have h7 := o.1
  intro m
  induction m with
  | zero =>
    intro x n s i hx hd hi hn hs
    obtain ⟨n, rfl⟩ : ∃ q, n = q + 1 := ⟨n - 1, by omega⟩
    rw [X7_chain_7, isStuckC c o hx, hd]
    simp [chn]
  | succ m ih =>
    intro x n s i hx hd hi hn hs
    obtain ⟨n, rfl⟩ : ∃ q, n = q + 1 := ⟨n - 1, by omega⟩
    rw [X7_chain_7, iL 7, if_neg (nI_ge (by omega) (by omega)), isStuckC c o hx, if_neg (show ¬ D x = 0 by omega), Option.bind_some, if_neg (show ¬ (1 : Int32) = 0 by decide), gd_nI (by omega) (by omega), cl_nI (by omega), (c.2.2 x hx).2.2.2.1, nI_1, or_bit s hs x (by omega)]
    have hs2 : s ||| 2 ^ x < 128 := Nat.or_lt_two_pow (n := 7) hs (p7 x (by omega))
    rcases o.2.2.2.1 x hx with ⟨h1, h2⟩ | ⟨h1, h2⟩ | ⟨y, hy, h1, h2, h3⟩
    · omega
    · have : m = 0 := by omega
      subst this
      obtain ⟨n, rfl⟩ : ∃ q, n = q + 1 := ⟨n - 1, by omega⟩
      rw [h1, X7_chain_7, isStuckC0 c o (not9 h7), chn, chn]
      simp
    · rw [h1, ih y n _ (i + 1) hy (by omega) (by omega) (by omega) hs2, chn, h1, cl_nI (by omega), Nat.or_assoc]
theorem chainC (c : CV P k t l h a d vS vF) (o : OKV P k t h a D) {x : Nat} (hx : x < P) : X7_chain vS vF (nI x) = some (nI (chn h (D x) x)) := by
  have hd7 := o.d7 hx
  have := chainAuxC c o (D x) x 500 0 0 hx rfl (by omega) (by omega) (by omega)
  rw [Nat.zero_or] at this
  rw [X7_chain]
  exact this
theorem depthC (c : CV P k t l h a d vS vF) (o : OKV P k t h a D) {x : Nat} (hx : x < P) : X7_depth vS vF (nI x) = some (nI (D x)) := by
  rw [X7_depth, chainC c o hx, Option.bind_some, bitc _ (chn_lt o _ x hx rfl), Option.bind_some, chn_pc o _ x hx rfl]
end
