def firstF (p : Nat → Bool) : Nat → Nat → Option Nat
  | 0, _ => none
  | n + 1, i => if p i then some i else firstF p n (i + 1)
theorem firstF_none {p : Nat → Bool} : ∀ n i, firstF p n i = none ↔ ∀ j, i ≤ j → j < i + n → p j = false
  | 0, i => by simp [firstF]; intro j h1 h2; omega
  | n + 1, i => by
    rw [firstF]
    by_cases h : p i = true
    · rw [if_pos h]
      constructor
      · intro q; cases q
      · intro q; have := q i (by omega) (by omega); rw [h] at this; cases this
    · rw [if_neg h, firstF_none n (i + 1)]
      constructor
      · intro q j h1 h2
        rcases Nat.lt_or_ge i j with w | w
        · exact q j (by omega) (by omega)
        · have : j = i := by omega
          subst this; simpa using h
      · intro q j h1 h2; exact q j (by omega) (by omega)
def fr (o : Option Nat) : Int32 := match o with
  | none => -9
  | some i => nI i
theorem and_lt {a b : Nat} (h : a < 128) : a &&& b < 128 := Nat.lt_of_le_of_lt Nat.and_le_left h
theorem pcn7 : ∀ s, s < 128 → pcn s ≤ 7 := fun s _ => cnt_le _ 7
/-- a number of PEOPLE, or not: both sides say so alike -/
theorem one_cases {P : Nat} {vS : Nat → Nat → Int32} {mi : Nat → Int32} (hC : vS 0 0 = nI P) (hM : mi 0 = nI P) (hP : P ≤ 7) (x : Int32) : (∃ z, z < P ∧ x = nI z ∧ X7_isPerson vS (nI z) = some 1 ∧ X9_isOne mi (nI z) = some 1) ∨ (¬ prs P x ∧ X7_isPerson vS x = some 0 ∧ X9_isOne mi x = some 0) := by
  by_cases h : prs P x
  · obtain ⟨z, hz, rfl⟩ := prs_ex hP h
    exact Or.inl ⟨z, hz, rfl, isPersonC1 hC hP hz, isOneM1 hM hP hz⟩
  · exact Or.inr ⟨h, by rw [isPersonC hC hP]; exact congrArg some (if_neg h), by rw [isOneM hM hP]; exact congrArg some (if_neg h)⟩
section
variable {P : Nat} {k t l h a : Nat → Int32} {d : Int32} {vS : Nat → Nat → Int32} {vF : Nat → Nat → Nat → Int32} {D : Nat → Nat} {mi : Nat → Int32} {ma : Nat → Nat → Int32}
variable {gi : Nat → Int32} {gl : Nat → Int64} {ga : Nat → Nat → Int32} {sN : Nat → Int32} {sF : Nat → Nat → Int32} {ml : Nat → Int64}
/-- what a relation shows of the village now -/
theorem RV.view (R : RV vS vF mi ma) : ∃ P k t l h a d D, CV P k t l h a d vS vF ∧ MV P k t l h a d mi ma ∧ OKV P k t h a D ∧ vS 0 2 = mi 2 := by
  obtain ⟨P, k, h0, hk, ⟨n, t, hH, hA, hL, hD, DD, vo, vw, mw⟩, -⟩ := R
  refine ⟨P, k, t, hL n, hH n, hA n, hD n, DD n, ⟨vw.1, vw.2.1, vw.2.2.2.1⟩, ⟨h0, mw.1, fun x hx => ⟨hk x hx, mw.2.2.1 x hx⟩⟩, vo.2 n (Nat.le_refl _), ?_⟩
  rw [vw.2.2.1, mw.2.1]
theorem st_stuck (R : RV vS vF mi ma) : ∃ r, X8_stuck vS vF = some r ∧ X9_stuck mi ma = some r := by
  obtain ⟨P, k, t, l, h, a, d, D, c, m, o, -⟩ := R.view
  exact ⟨_, by rw [X8_stuck, stuckSetC c o]; rfl, by rw [X9_stuck, stuckSetM m o]; rfl⟩
theorem st_canLaugh (R : RV vS vF mi ma) : ∃ r, X8_canLaugh vS vF = some r ∧ X9_canLaugh mi ma = some r := by
  obtain ⟨P, k, t, l, h, a, d, D, c, m, o, -⟩ := R.view
  exact ⟨_, canLaughC c o, canLaughM m o⟩
theorem st_ways (R : RV vS vF mi ma) : ∃ r, X8_ways vS vF = some r ∧ X9_ways mi ma = some r := by
  obtain ⟨P, k, t, l, h, a, d, D, c, m, o, -⟩ := R.view
  exact ⟨_, by rw [X8_ways, touchesC c o]; rfl, by rw [X9_ways, waysM m o]; rfl⟩
theorem nine_ne : ¬ (9 : Int32) = -9 := by decide
theorem st_hang (R : RV vS vF mi ma) (y : Int32) : ∃ r, X8_hang vS vF y = some r ∧ X9_hang mi ma y = some r := by
  obtain ⟨P, k, t, l, h, a, d, D, c, m, o, -⟩ := R.view
  rw [X8_hang, X7_isHold, X9_hang]
  by_cases h9 : y = 9
  · subst h9
    exact ⟨_, by rw [if_pos rfl, Option.bind_some, if_neg one_ne, hangersC c o nine_ne]; rfl, by rw [if_pos rfl, hangSetM m o]; rfl⟩
  · rw [if_neg h9, if_neg h9]
    rcases one_cases c.1 m.1 o.1 y with ⟨z, hz, rfl, h1, h2⟩ | ⟨-, h1, h2⟩
    · have h7 := o.1
      exact ⟨_, by rw [h1, Option.bind_some, if_neg one_ne, Option.bind_some, if_neg one_ne, hangersC c o (nI_ne9 (by omega)).1]; rfl, by rw [h2, Option.bind_some, if_neg one_ne, hangSetM m o]; rfl⟩
    · exact ⟨-1, by rw [h1]; rfl, by rw [h2]; rfl⟩
theorem st_jester (R : Rel gi gl ga vS vF sN sF mi ml ma) : ∃ r gi' mi', X8_jester vS vF gi = some (r, gi') ∧ X9_jester ma mi = some (r, mi') ∧ Rel gi' gl ga vS vF sN sF mi' ml ma := by
  obtain ⟨P, k, t, l, h, a, d, D, c, m, o, -⟩ := R.2.2.2.view
  have h7 := o.1
  have key : ∀ q i n n', i + q = P → q < n → q < n' → ∃ r gi' mi', X8_jester_2 vS vF n (nI i) gi = some (r, gi') ∧ X9_jester_2 ma n' (nI i) mi = some (r, mi') ∧ Rel gi' gl ga vS vF sN sF mi' ml ma := by
    intro q
    induction q with
    | zero =>
      intro i n n' e1 e2 e3
      obtain ⟨n, rfl⟩ : ∃ z, n = z + 1 := ⟨n - 1, by omega⟩
      obtain ⟨n', rfl⟩ : ∃ z, n' = z + 1 := ⟨n' - 1, by omega⟩
      exact ⟨-9, gi, mi, by rw [X8_jester_2, c.1, if_pos (nI_le (by omega) (by omega))], by rw [X9_jester_2, m.1, if_pos (nI_le (by omega) (by omega))], R⟩
    | succ q ih =>
      intro i n n' e1 e2 e3
      obtain ⟨n, rfl⟩ : ∃ z, n = z + 1 := ⟨n - 1, by omega⟩
      obtain ⟨n', rfl⟩ : ∃ z, n' = z + 1 := ⟨n' - 1, by omega⟩
      rw [X8_jester_2, c.1, if_neg (nI_ge (by omega) (by omega)), isAmusedC c o (by omega), Option.bind_some, X9_jester_2, m.1, if_neg (nI_ge (by omega) (by omega)), mayLaughM m o (by omega), Option.bind_some, nI_1]
      cases ML P k t l d D i
      · exact ih (i + 1) n n' (by omega) (by omega) (by omega)
      · refine ⟨nI i, va_up gi 1 (nI (cnt (stk D) P)), va_up mi 3 (nI (cnt (stk D) P)), ?_, ?_, Rel_told R⟩
        · rw [if_pos rfl, if_neg one_ne, stuckCountC c o]; rfl
        · rw [if_pos rfl, if_neg one_ne, stuckSetM m o, Option.bind_some, bitsStuckM o]; rfl
  exact key P 0 500 500 (by omega) (by omega) (by omega)
/-- what person() tells of one -/
def FA (k t l h a : Nat → Int32) (d : Int32) (D : Nat → Nat) (x w : Nat) : Int32 := if w = 0 then k x else if w = 1 then t x else if w = 2 then (if (9999 : Int32) < d - l x then 9999 else d - l x) else if w = 3 then h x else if w = 4 then a x else nI (D x)
theorem small_eq {w : Nat} (hw : w < 6) (z : Nat) (hz : z < 2 ^ 31) : nI w = nI z ↔ w = z := nI_eq (by omega) hz
theorem factC (c : CV P k t l h a d vS vF) (o : OKV P k t h a D) {x w : Nat} (hx : x < P) (hw : w < 6) : X8_fact vS vF (nI x) (nI w) = some (FA k t l h a d D x w) := by
  have h7 := o.1
  obtain ⟨g0, g1, g3, g4, g5⟩ := c.2.2 x hx
  rw [X8_fact, isPersonC1 c.1 h7 hx, Option.bind_some, if_neg one_ne]
  simp only [show (0 : Int32) = nI 0 from rfl, show (1 : Int32) = nI 1 from rfl, show (2 : Int32) = nI 2 from rfl, show (3 : Int32) = nI 3 from rfl, show (4 : Int32) = nI 4 from rfl, small_eq hw _ (show 0 < 2 ^ 31 by omega), small_eq hw _ (show 1 < 2 ^ 31 by omega), small_eq hw _ (show 2 < 2 ^ 31 by omega), small_eq hw _ (show 3 < 2 ^ 31 by omega), small_eq hw _ (show 4 < 2 ^ 31 by omega), gd_nI (show x < 7 by omega) (show 7 < 2 ^ 31 by omega), cl_nI (show x < 2 ^ 31 by omega), g0, g1, g4, g5, daysAgoC c o hx, depthC c o hx, Option.bind_some, FA]
  (repeat' split) <;> rfl
theorem personOfM (c : MV P k t l h a d mi ma) (o : OKV P k t h a D) {x w : Nat} (hx : x < P) (hw : w < 6) : X9_personOf mi ma (nI x) (nI w) = some (FA k t l h a d D x w) := by
  have h7 := o.1
  obtain ⟨g0, g1, g3, g4, g5⟩ := c.2.2 x hx
  have hda : X9_daysAgo mi ma (nI x) = some (if (9999 : Int32) < d - l x then 9999 else d - l x) := by
    rw [X9_daysAgo, gd_nI (by omega) (by omega), cl_nI (by omega), c.2.1, g3]
    by_cases q : (9999 : Int32) < d - l x
    · rw [if_neg (fun w => (fa_of_lt q).2.1 w), if_pos q]
    · rw [if_pos (fa_of_nlt q), if_neg q]
  rw [X9_personOf, hda]
  simp only [show (0 : Int32) = nI 0 from rfl, show (1 : Int32) = nI 1 from rfl, show (2 : Int32) = nI 2 from rfl, show (3 : Int32) = nI 3 from rfl, show (4 : Int32) = nI 4 from rfl, small_eq hw _ (show 0 < 2 ^ 31 by omega), small_eq hw _ (show 1 < 2 ^ 31 by omega), small_eq hw _ (show 2 < 2 ^ 31 by omega), small_eq hw _ (show 3 < 2 ^ 31 by omega), small_eq hw _ (show 4 < 2 ^ 31 by omega), gd_nI (show x < 7 by omega) (show 7 < 2 ^ 31 by omega), cl_nI (show x < 2 ^ 31 by omega), g0, g1, g4, g5, depthM c o hx, Option.bind_some, FA]
  (repeat' split) <;> rfl
end
