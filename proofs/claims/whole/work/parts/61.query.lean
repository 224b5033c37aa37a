theorem widthC (x : Int32) : X8_isWidth x = some (if 0 ≤ x.toInt ∧ x.toInt ≤ 7 then 1 else 0) := by
  rw [X8_isWidth]
  simp only [Int32.lt_iff_toInt_lt, zI, show (7 : Int32).toInt = 7 from rfl]
  by_cases h : 0 ≤ x.toInt ∧ x.toInt ≤ 7
  · rw [if_pos h, if_neg (by omega), if_neg (by omega)]
  · rw [if_neg h]
    split
    · rfl
    · rw [if_pos (by omega)]
theorem width_cases (x : Int32) : (∃ w, w ≤ 7 ∧ x = nI w ∧ X8_isWidth (nI w) = some 1 ∧ X9_in (nI w).toInt64 0 7 = some 1) ∨ (X8_isWidth x = some 0 ∧ X9_in x.toInt64 0 7 = some 0) := by
  by_cases h : 0 ≤ x.toInt ∧ x.toInt ≤ 7
  · obtain ⟨w, hw, rfl⟩ := toI_ex (x := x) (N := 8) (by omega) (by omega)
    exact Or.inl ⟨w, by omega, rfl, by rw [widthC, if_pos h], by rw [inI _ 0 7 0 7 rfl rfl, if_pos h]⟩
  · exact Or.inr ⟨by rw [widthC, if_neg h], by rw [inI _ 0 7 0 7 rfl rfl, if_neg h]⟩
section
variable {P : Nat} {k t l h a : Nat → Int32} {d : Int32} {vS : Nat → Nat → Int32} {vF : Nat → Nat → Nat → Int32} {D : Nat → Nat} {mi : Nat → Int32} {ma : Nat → Nat → Int32}
variable {gi : Nat → Int32} {gl : Nat → Int64} {ga : Nat → Nat → Int32} {sN : Nat → Int32} {sF : Nat → Nat → Int32} {ml : Nat → Int64}
theorem st_person (R : Rel gi gl ga vS vF sN sF mi ml ma) (x w : Int32) : ∃ r gi' mi', X8_person vS vF x w gi = some (r, gi') ∧ X9_person ma x w mi = some (r, mi') ∧ Rel gi' gl ga vS vF sN sF mi' ml ma := by
  obtain ⟨P, k, t, l, h, a, d, D, c, m, o, -⟩ := R.2.2.2.view
  rw [X8_person, X9_person]
  rcases one_cases c.1 m.1 o.1 x with ⟨z, hz, rfl, h1, h2⟩ | ⟨-, h1, h2⟩
  · rw [h1, h2, Option.bind_some, Option.bind_some, if_neg one_ne, if_neg one_ne, inI _ 0 5 0 5 rfl rfl, Option.bind_some]
    simp only [Int32.lt_iff_toInt_lt, zI, show (6 : Int32).toInt = 6 from rfl]
    by_cases hw : 0 ≤ w.toInt ∧ w.toInt ≤ 5
    · obtain ⟨v, hv, rfl⟩ := toI_ex (x := w) (N := 6) (by omega) (by omega)
      rw [if_pos hw, if_neg (by omega), if_pos (by omega), if_neg one_ne, factC c o hz hv, personOfM m o hz hv]
      exact ⟨1, _, _, rfl, rfl, Rel_told R⟩
    · rw [if_neg hw, if_pos rfl]
      refine ⟨-1, gi, mi, ?_, rfl, R⟩
      split
      · rfl
      · rw [if_neg (by omega)]
  · rw [h1, h2]
    exact ⟨-1, gi, mi, rfl, rfl, R⟩
theorem HS_sub (o : OKV P k t h a D) {y : Int32} (hy : y ≠ -9) : bset (HS h y) P &&& bset (stk D) P = bset (HS h y) P := by
  apply Nat.eq_of_testBit_eq
  intro i
  rw [Nat.testBit_and, bset_bit, bset_bit]
  by_cases hi : i < P
  · by_cases e : h i = y
    · have : D i ≠ 0 := fun q => hy (by rw [← e]; exact (o.stuck hi).mpr q)
      simp [hi, HS, e, stk, this]
    · simp [HS, e]
  · simp [hi]
/-- DOORS -/
def WD (P : Nat) (h : Nat → Int32) (s w : Nat) : Int32 := if w < pcn (bset (HS h 9) P &&& s) then 9 else fr (firstF (fun x => decide (w < pcn (bset (HS h (nI x)) P &&& s))) P 0)
theorem tooWideC (c : CV P k t l h a d vS vF) (o : OKV P k t h a D) {s w : Nat} (hs : s < 128) (hw : w ≤ 7) : X4_tooWide vS vF (nI s) (nI w) = some (WD P h s w) := by
  have h7 := o.1
  have b9 : bset (HS h 9) P < 128 := bset_lt7 h7
  have key : ∀ q i n, i + q = P → q < n → X4_tooWide_20 vS vF n (nI s) (nI w) (nI i) = some (fr (firstF (fun x => decide (w < pcn (bset (HS h (nI x)) P &&& s))) q i)) := by
    intro q
    induction q with
    | zero =>
      intro i n e1 e2
      obtain ⟨n, rfl⟩ : ∃ z, n = z + 1 := ⟨n - 1, by omega⟩
      rw [X4_tooWide_20, c.1, if_pos (nI_le (by omega) (by omega))]; rfl
    | succ q ih =>
      intro i n e1 e2
      obtain ⟨n, rfl⟩ : ∃ z, n = z + 1 := ⟨n - 1, by omega⟩
      have bi : bset (HS h (nI i)) P < 128 := bset_lt7 h7
      have p7 := pcn7 _ (and_lt (b := s) bi)
      rw [X4_tooWide_20, c.1, if_neg (nI_ge (by omega) (by omega)), hangersC c o (nI_ne9 (by omega)).1, Option.bind_some, fa_and, bitc _ (and_lt bi), Option.bind_some, nI_1, ih (i + 1) n (by omega) (by omega), firstF]
      by_cases q1 : w < pcn (bset (HS h (nI i)) P &&& s)
      · rw [if_neg (nI_ge q1 (by omega)), if_pos (decide_eq_true q1)]; rfl
      · rw [if_pos (nI_le (by omega) (by omega)), if_neg (by simp [q1])]
  have p9 := pcn7 _ (and_lt (b := s) b9)
  rw [X4_tooWide, hangersC c o nine_ne, Option.bind_some, fa_and, bitc _ (and_lt b9), Option.bind_some, WD]
  by_cases q1 : w < pcn (bset (HS h 9) P &&& s)
  · rw [if_neg (nI_ge q1 (by omega)), if_pos q1]
  · rw [if_pos (nI_le (by omega) (by omega)), if_neg q1]
    exact key P 0 500 (by omega) (by omega)
theorem tooManyM (c : MV P k t l h a d mi ma) (o : OKV P k t h a D) {w : Nat} (hw : w ≤ 7) : X9_tooMany mi ma (nI w) = some (WD P h (bset (stk D) P) w) := by
  have h7 := o.1
  have b9 : bset (HS h 9) P < 128 := bset_lt7 h7
  have key : ∀ q i n, i + q = P → q < n → X9_tooMany_18 mi ma n (nI w) (nI i) = some (fr (firstF (fun x => decide (w < pcn (bset (HS h (nI x)) P &&& bset (stk D) P))) q i)) := by
    intro q
    induction q with
    | zero =>
      intro i n e1 e2
      obtain ⟨n, rfl⟩ : ∃ z, n = z + 1 := ⟨n - 1, by omega⟩
      rw [X9_tooMany_18, c.1, if_pos (nI_le (by omega) (by omega))]; rfl
    | succ q ih =>
      intro i n e1 e2
      obtain ⟨n, rfl⟩ : ∃ z, n = z + 1 := ⟨n - 1, by omega⟩
      have bi : bset (HS h (nI i)) P < 128 := bset_lt7 h7
      have p7 := pcn7 _ bi
      rw [X9_tooMany_18, c.1, if_neg (nI_ge (by omega) (by omega)), hangSetM c o, Option.bind_some, bitsM _ bi, Option.bind_some, nI_1, ih (i + 1) n (by omega) (by omega), firstF, HS_sub o (nI_ne9 (by omega)).1]
      by_cases q1 : w < pcn (bset (HS h (nI i)) P)
      · rw [if_neg (nI_ge q1 (by omega)), if_pos (decide_eq_true q1)]; rfl
      · rw [if_pos (nI_le (by omega) (by omega)), if_neg (by simp [q1])]
  have p9 := pcn7 _ b9
  rw [X9_tooMany, hangSetM c o, Option.bind_some, bitsM _ b9, Option.bind_some, WD, HS_sub o nine_ne]
  by_cases q1 : w < pcn (bset (HS h 9) P)
  · rw [if_neg (nI_ge q1 (by omega)), if_pos q1]
  · rw [if_pos (nI_le (by omega) (by omega)), if_neg q1]
    exact key P 0 500 (by omega) (by omega)
theorem st_door (R : RV vS vF mi ma) (x : Int32) : ∃ r, X8_door vS vF x = some r ∧ X9_door mi ma x = some r := by
  obtain ⟨P, k, t, l, h, a, d, D, c, m, o, -⟩ := R.view
  rw [X8_door, X9_door]
  rcases width_cases x with ⟨w, hw, rfl, h1, h2⟩ | ⟨h1, h2⟩
  · exact ⟨_, by rw [h1, Option.bind_some, if_neg one_ne, stuckSetC c o, Option.bind_some, tooWideC c o (bset_lt7 o.1) hw]; rfl, by rw [h2, Option.bind_some, if_neg one_ne, tooManyM m o hw]; rfl⟩
  · exact ⟨-1, by rw [h1]; rfl, by rw [h2]; rfl⟩
/-- STAIRS -/
def DPb (D : Nat → Nat) (s len : Nat) : Nat → Bool := fun x => s.testBit x && decide (len < D x)
theorem tooDeepC (c : CV P k t l h a d vS vF) (o : OKV P k t h a D) {s w : Nat} (hs : s < 128) (hw : w ≤ 7) : X4_tooDeep vS vF (nI s) (nI w) = some (nI (bset (DPb D s w) P)) := by
  have h7 := o.1
  rw [X4_tooDeep]
  refine lu4 (X4_tooDeep_5 vS vF) (fun _ => nI s) (fun _ => nI w) (fun i => nI (bset (DPb D s w) i)) nI P _ ?_ ?_ 0 500 (by omega) (by omega)
  · intro n i hi
    have hd := o.d7 hi
    rw [X4_tooDeep_5, c.1, if_neg (nI_ge hi (by omega)), sh_bit s hs i (by omega), depthC c o hi, Option.bind_some, nI_1, nI_bs _ (by omega)]
    cases hb : s.testBit i
    · simp [DPb, hb]
    · by_cases q : w < D i
      · simp [DPb, hb, q, nI_ge q (show D i < 2 ^ 31 by omega)]
      · simp [DPb, hb, q, nI_le (show D i ≤ w by omega) (show w < 2 ^ 31 by omega)]
  · intro n
    rw [X4_tooDeep_5, c.1, if_pos (nI_le (Nat.le_refl _) (by omega))]
theorem tooDeepM (c : MV P k t l h a d mi ma) (o : OKV P k t h a D) {w : Nat} (hw : w ≤ 7) : X9_tooDeep mi ma (nI w) = some (nI (bset (fun x => decide (w < D x)) P)) := by
  have h7 := o.1
  rw [X9_tooDeep]
  refine lu3 (X9_tooDeep_4 mi ma) (fun _ => nI w) (fun i => nI (bset (fun x => decide (w < D x)) i)) nI P _ ?_ ?_ 0 500 (by omega) (by omega)
  · intro n i hi
    have hd := o.d7 hi
    rw [X9_tooDeep_4, c.1, if_neg (nI_ge hi (by omega)), depthM c o hi, Option.bind_some, nI_1, nI_bs _ (by omega), or0]
    by_cases q : w < D i
    · simp [q, nI_ge q (show D i < 2 ^ 31 by omega)]
    · simp [q, nI_le (show D i ≤ w by omega) (show w < 2 ^ 31 by omega)]
  · intro n
    rw [X9_tooDeep_4, c.1, if_pos (nI_le (Nat.le_refl _) (by omega))]
theorem st_stairs (R : RV vS vF mi ma) (x : Int32) : ∃ r, X8_stairs vS vF x = some r ∧ X9_stairs mi ma x = some r := by
  obtain ⟨P, k, t, l, h, a, d, D, c, m, o, -⟩ := R.view
  rw [X8_stairs, X9_stairs]
  rcases width_cases x with ⟨w, hw, rfl, h1, h2⟩ | ⟨h1, h2⟩
  · have e : bset (DPb D (bset (stk D) P) w) P = bset (fun x => decide (w < D x)) P := bset_cong (fun i hi => by
      rw [DPb, bset_bit]
      by_cases q : w < D i
      · simp [hi, q, stk]; omega
      · simp [q])
    exact ⟨_, by rw [h1, Option.bind_some, if_neg one_ne, stuckSetC c o, Option.bind_some, tooDeepC c o (bset_lt7 o.1) hw, e]; rfl, by rw [h2, Option.bind_some, if_neg one_ne, tooDeepM m o hw]; rfl⟩
  · exact ⟨-1, by rw [h1]; rfl, by rw [h2]; rfl⟩
/-- the TRAIN passes -/
def PS (P : Nat) (h : Nat → Int32) (D : Nat → Nat) (s w len : Nat) : Prop := pcn (bset (HS h 9) P &&& s) ≤ w ∧ (∀ x, x < P → pcn (bset (HS h (nI x)) P &&& s) ≤ w) ∧ ∀ x, x < P → s.testBit x = true → D x ≤ len
theorem fr_ne {p : Nat → Bool} (n : Nat) (hn : n ≤ 7) : ∀ q i, i + q = n → (fr (firstF p q i) = -9 ↔ ∀ j, i ≤ j → j < n → p j = false) := by
  intro q
  induction q with
  | zero => intro i e; simp [firstF, fr]; intro j h1 h2; omega
  | succ q ih =>
    intro i e
    rw [firstF]
    by_cases hp : p i = true
    · rw [if_pos hp]
      constructor
      · intro w; exact absurd w (nI_ne9 (by omega)).1
      · intro w; rw [w i (by omega) (by omega)] at hp; cases hp
    · rw [if_neg hp, ih (i + 1) (by omega)]
      constructor
      · intro w j h1 h2
        rcases Nat.lt_or_ge i j with z | z
        · exact w j (by omega) h2
        · have : j = i := by omega
          subst this; simpa using hp
      · intro w j h1 h2; exact w j (by omega) h2
theorem passesC (c : CV P k t l h a d vS vF) (o : OKV P k t h a D) {s w len : Nat} (hs : s < 128) (hw : w ≤ 7) (hl : len ≤ 7) : ∃ r, X4_passes vS vF (nI s) (nI w) (nI len) = some r ∧ (r = 0 ∨ r = 1) ∧ (r = 1 ↔ PS P h D s w len) := by
  have h7 := o.1
  rw [X4_passes, tooDeepC c o hs hl, Option.bind_some, tooWideC c o hs hw, Option.bind_some]
  have e1 : nI (bset (DPb D s len) P) = 0 ↔ ∀ x, x < P → s.testBit x = true → D x ≤ len := by
    rw [nI_b0 h7, cnt_0]
    constructor
    · intro q x hx hb
      have := q x hx
      simp [DPb, hb] at this
      exact this
    · intro q x hx
      cases hb : s.testBit x
      · simp [DPb, hb]
      · have := q x hx hb
        simp [DPb, hb, this]
  have e2 : WD P h s w = -9 ↔ pcn (bset (HS h 9) P &&& s) ≤ w ∧ ∀ x, x < P → pcn (bset (HS h (nI x)) P &&& s) ≤ w := by
    rw [WD]
    by_cases q1 : w < pcn (bset (HS h 9) P &&& s)
    · rw [if_pos q1]
      constructor
      · intro q; exact absurd q nine_ne
      · intro q; omega
    · rw [if_neg q1, fr_ne P h7 P 0 (by omega)]
      constructor
      · intro q; exact ⟨by omega, fun x hx => by have := q x (by omega) hx; simpa using this⟩
      · intro q j _ h2; simpa using q.2 j h2
  by_cases q1 : nI (bset (DPb D s len) P) = 0
  · rw [if_pos q1]
    by_cases q2 : WD P h s w = -9
    · rw [if_pos q2]
      exact ⟨1, rfl, Or.inr rfl, by simp only [true_iff]; exact ⟨(e2.mp q2).1, (e2.mp q2).2, e1.mp q1⟩⟩
    · rw [if_neg q2]
      exact ⟨0, rfl, Or.inl rfl, by constructor; (intro w; cases w); (intro w; exact absurd (e2.mpr ⟨w.1, w.2.1⟩) q2)⟩
  · rw [if_neg q1]
    exact ⟨0, rfl, Or.inl rfl, by constructor; (intro w; cases w); (intro w; exact absurd (e1.mpr w.2.2) q1)⟩
end
