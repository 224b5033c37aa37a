theorem bset_cnt0 {p : Nat → Bool} {n : Nat} : bset p n = 0 ↔ cnt p n = 0 := by rw [bset_0, cnt_0]
section
variable {P : Nat} {k t l h a : Nat → Int32} {d : Int32} {vS : Nat → Nat → Int32} {vF : Nat → Nat → Nat → Int32} {D : Nat → Nat} {mi : Nat → Int32} {ma : Nat → Nat → Int32}
theorem nI_b0 (hP : P ≤ 7) (p : Nat → Bool) : nI (bset p P) = 0 ↔ cnt p P = 0 := by
  rw [← bset_cnt0]
  constructor
  · intro q
    by_cases e : bset p P = 0
    · exact e
    · exact absurd q (nI_ne0 (by omega) (by have := bset_lt7 (p := p) hP; omega))
  · intro q; rw [q]; rfl
theorem mayLaughM (c : MV P k t l h a d mi ma) (o : OKV P k t h a D) {x : Nat} (hx : x < P) : X9_mayLaugh mi ma (nI x) = some (if ML P k t l d D x then 1 else 0) := by
  have h7 := o.1
  obtain ⟨tt, t1, t8, et⟩ := o.2.2.1 x hx
  have hs7 := SG7 o x
  rw [X9_mayLaugh, gd_nI (by omega) (by omega), gd_nI (by omega) (by omega), cl_nI (by omega), (c.2.2 x hx).1, stuckSetM c o, isStuckM c o hx, c.2.1, (c.2.2 x hx).2.2.1]
  have h53 : ∀ z : Int32, X9_mayLaugh_53 mi ma (nI x) z = some (if z = 0 then 0 else if (if IA (k x) 2 then decide (t x < nI (SG P k D x)) else decide (t x ≤ nI (SG P k D x))) then 1 else 0) := by
    intro z
    rw [X9_mayLaugh_53, show X9_isOf ma (nI x) 2 = _ from isOfM c o hx (w := 2) (by omega) (by omega), sightM c o hx, Option.bind_some, Option.bind_some, Option.bind_some, gd_nI (by omega) (by omega), gd_nI (by omega) (by omega), cl_nI (by omega), (c.2.2 x hx).2.1, et]
    by_cases hz : z = 0
    · rw [if_pos hz, if_pos hz]
    · rw [if_neg hz, if_neg hz]
      cases IA (k x) 2
      · by_cases q : tt ≤ SG P k D x
        · simp [nI_nlt q (by omega), nI_le q (by omega)]
        · simp [nI_lt (show SG P k D x < tt by omega) (by omega), nI_ge (show SG P k D x < tt by omega) (by omega)]
      · by_cases q : tt < SG P k D x
        · simp [nI_ge q (by omega), nI_lt q (by omega)]
        · simp [nI_le (show SG P k D x ≤ tt by omega) (by omega), nI_nlt (show SG P k D x ≤ tt by omega) (by omega)]
  unfold ML
  by_cases e3 : k x = 3
  · rw [if_pos e3, if_pos e3, Option.bind_some]
    by_cases e : cnt (stk D) P = 0
    · rw [if_pos ((nI_b0 h7 _).mpr e)]; simp [e]
    · rw [if_neg (fun q => e ((nI_b0 h7 _).mp q))]; simp [e]
  · rw [if_neg e3, if_neg e3, Option.bind_some, h53, h53]
    by_cases hd : D x = 0
    · by_cases hl : d - l x < 365
      · simp [hd, hl]
      · simp [hd, hl]
    · simp [hd]
theorem daysAgoC (c : CV P k t l h a d vS vF) (o : OKV P k t h a D) {x : Nat} (hx : x < P) : X7_daysAgo vS vF (nI x) = some (d - l x) := by
  have h7 := o.1
  rw [X7_daysAgo, isPersonC1 c.1 h7 hx, Option.bind_some, if_neg (show ¬ (1 : Int32) = 0 by decide), gd_nI (by omega) (by omega), cl_nI (by omega), (c.2.2 x hx).2.2.1, c.2.1]
theorem isReadyC (c : CV P k t l h a d vS vF) (o : OKV P k t h a D) {x : Nat} (hx : x < P) : X7_isReady vS vF (nI x) = some (if k x = 3 ∨ ¬ d - l x < 365 then 1 else 0) := by
  rw [X7_isReady, show X7_isOf vS vF (nI x) 3 = _ from isOfC c o hx (w := 3) (by omega) (by omega), Option.bind_some, daysAgoC c o hx, Option.bind_some, IA3]
  by_cases e3 : k x = 3
  · simp [e3]
  · by_cases hl : d - l x < 365
    · simp [e3, hl]
    · simp [e3, hl]
/-- the least SIGHT that is due -/
def DU (k t : Nat → Int32) (x : Nat) : Int32 := if k x = 3 then 1 else if IA (k x) 2 then t x + 1 else t x
theorem sightDueC (c : CV P k t l h a d vS vF) (o : OKV P k t h a D) {x : Nat} (hx : x < P) : X7_sightDue vS vF (nI x) = some (DU k t x) := by
  have h7 := o.1
  rw [X7_sightDue, isPersonC1 c.1 h7 hx, Option.bind_some, if_neg (show ¬ (1 : Int32) = 0 by decide), show X7_isOf vS vF (nI x) 3 = _ from isOfC c o hx (w := 3) (by omega) (by omega), Option.bind_some, show X7_isOf vS vF (nI x) 2 = _ from isOfC c o hx (w := 2) (by omega) (by omega), Option.bind_some, gd_nI (by omega) (by omega), gd_nI (by omega) (by omega), cl_nI (by omega), (c.2.2 x hx).2.1, IA3, DU]
  by_cases e3 : k x = 3
  · simp [e3]
  · cases IA (k x) 2 <;> simp [e3]
theorem isAmusedC (c : CV P k t l h a d vS vF) (o : OKV P k t h a D) {x : Nat} (hx : x < P) : X7_isAmused vS vF (nI x) = some (if ML P k t l d D x then 1 else 0) := by
  have h7 := o.1
  obtain ⟨tt, t1, t8, et⟩ := o.2.2.1 x hx
  have hs7 := SG7 o x
  have h22 : ∀ z : Int32, X7_isAmused_22 vS vF (nI x) z = some (if z = 0 ∧ (k x = 3 ∨ ¬ d - l x < 365) ∧ ¬ nI (SG P k D x) < DU k t x then 1 else 0) := by
    intro z
    rw [X7_isAmused_22, isPersonC1 c.1 h7 hx, Option.bind_some, if_neg (show ¬ (1 : Int32) = 0 by decide), isReadyC c o hx, Option.bind_some, sightC c o hx, Option.bind_some, sightDueC c o hx, Option.bind_some]
    by_cases hz : z = 0
    · by_cases hr : k x = 3 ∨ ¬ d - l x < 365
      · by_cases hs : nI (SG P k D x) < DU k t x
        · rw [if_pos hz, if_pos hr, if_neg (show ¬ (1 : Int32) = 0 by decide), if_pos hs, if_neg (fun q => q.2.2 hs)]
        · rw [if_pos hz, if_pos hr, if_neg (show ¬ (1 : Int32) = 0 by decide), if_neg hs, if_pos ⟨hz, hr, hs⟩]
      · rw [if_pos hz, if_neg hr, if_pos rfl, if_neg (fun q => hr q.2.1)]
    · rw [if_neg hz, if_neg (fun q => hz q.1)]
  rw [X7_isAmused, isStuckC c o hx, Option.bind_some, show X7_isOf vS vF (nI x) 3 = _ from isOfC c o hx (w := 3) (by omega) (by omega), Option.bind_some, h22, h22, IA3]
  unfold ML DU
  by_cases e3 : k x = 3
  · have e4 : SG P k D x = cnt (stk D) P := by rw [SG, if_neg (by rw [e3]; decide)]
    have e5 : nI (cnt (stk D) P) < 1 ↔ cnt (stk D) P = 0 := by
      rw [show (1 : Int32) = nI 1 from rfl, nI_ltI (by omega) (by omega)]; omega
    rw [e4]
    by_cases hd : D x = 0
    · simp [e3, hd, e5]
    · simp [e3, hd, e5]
  · have key : (¬ nI (SG P k D x) < (if IA (k x) 2 then t x + 1 else t x)) ↔ (if IA (k x) 2 then decide (t x < nI (SG P k D x)) else decide (t x ≤ nI (SG P k D x))) = true := by
      rw [et]
      cases IA (k x) 2
      · simp only [Bool.false_eq_true, if_false, nI_ltI (show SG P k D x < 2 ^ 31 by omega) (show tt < 2 ^ 31 by omega), nI_leI (show tt < 2 ^ 31 by omega) (show SG P k D x < 2 ^ 31 by omega), decide_eq_true_eq]
        omega
      · simp only [if_true, nI_1, nI_ltI (show SG P k D x < 2 ^ 31 by omega) (show tt + 1 < 2 ^ 31 by omega), nI_ltI (show tt < 2 ^ 31 by omega) (show SG P k D x < 2 ^ 31 by omega), decide_eq_true_eq]
        omega
    by_cases hd : D x = 0
    · by_cases hl : d - l x < 365
      · simp [e3, hd, hl]
      · simp [e3, hd, hl, key]
    · simp [e3, hd]
theorem canLaughC (c : CV P k t l h a d vS vF) (o : OKV P k t h a D) : X8_canLaugh vS vF = some (nI (bset (ML P k t l d D) P)) := by
  have h7 := o.1
  rw [X8_canLaugh]
  refine lu2 (X8_canLaugh_4 vS vF) (fun i => nI (bset (ML P k t l d D) i)) nI P _ ?_ ?_ 0 500 (by omega) (by omega)
  · intro n i hi
    rw [X8_canLaugh_4, c.1, if_neg (nI_ge hi (by omega)), isAmusedC c o hi, Option.bind_some, nI_1, nI_bs _ (by omega)]
    cases ML P k t l d D i <;> simp
  · intro n
    rw [X8_canLaugh_4, c.1, if_pos (nI_le (Nat.le_refl _) (by omega))]
theorem canLaughM (c : MV P k t l h a d mi ma) (o : OKV P k t h a D) : X9_canLaugh mi ma = some (nI (bset (ML P k t l d D) P)) := by
  have h7 := o.1
  rw [X9_canLaugh]
  refine lu2 (X9_canLaugh_4 mi ma) (fun i => nI (bset (ML P k t l d D) i)) nI P _ ?_ ?_ 0 500 (by omega) (by omega)
  · intro n i hi
    rw [X9_canLaugh_4, c.1, if_neg (nI_ge hi (by omega)), mayLaughM c o hi, Option.bind_some, nI_1, nI_bs _ (by omega), or0]
    cases ML P k t l d D i <;> simp
  · intro n
    rw [X9_canLaugh_4, c.1, if_pos (nI_le (Nat.le_refl _) (by omega))]
theorem sticksByC (c : CV P k t l h a d vS vF) (o : OKV P k t h a D) {x : Nat} (hx : x < P) (y : Int32) : X7_sticksBy vS vF (nI x) y = some (if y = 0 ∧ IA (k x) 1 = true then 0 else 1) := by
  rw [X7_sticksBy, show X7_isOf vS vF (nI x) 1 = _ from isOfC c o hx (w := 1) (by omega) (by omega), Option.bind_some]
  by_cases hy : y = 0
  · cases IA (k x) 1 <;> simp [hy]
  · simp [hy]
theorem IA1 {z : Int32} : IA z 1 = (decide (z = 1) || decide (z = 5)) := by
  unfold IA
  simp
  rfl
theorem sticksM (c : MV P k t l h a d mi ma) (o : OKV P k t h a D) {x : Nat} (hx : x < P) {y : Int32} (hy : y = 0 ∨ y = 1) : X9_sticks ma (nI x) y = some (if y = 0 ∧ IA (k x) 1 = true then 0 else 1) := by
  have h7 := o.1
  rw [X9_sticks, gd_nI (by omega) (by omega), gd_nI (by omega) (by omega), cl_nI (by omega), (c.2.2 x hx).1, IA1]
  rcases hy with rfl | rfl
  · by_cases e1 : k x = 1
    · simp [e1]
    · by_cases e5 : k x = 5
      · simp [e5]
      · simp [e1, e5]
  · simp
/-- how many TOUCHES there are -/
def TW (P : Nat) (k : Nat → Int32) (D : Nat → Nat) : Nat := smN (hnd k D) P * (cnt (stk D) P + 1)
theorem hnd2 (k : Nat → Int32) (D : Nat → Nat) (x : Nat) : hnd k D x ≤ 2 := by
  unfold hnd
  split
  · omega
  · split <;> omega
theorem nI_two (a : Nat) : nI a + 2 = nI (a + 2) := nI_add a 2
theorem touchesC (c : CV P k t l h a d vS vF) (o : OKV P k t h a D) : X7_touches vS vF = some (nI (TW P k D)) := by
  have h7 := o.1
  rw [X7_touches]
  refine lu2 (X7_touches_4 vS vF) (fun i => nI (smN (hnd k D) i)) nI P _ ?_ ?_ 0 500 (by omega) (by omega)
  · intro n i hi
    rw [X7_touches_4, c.1, if_neg (nI_ge hi (by omega)), isStuckC c o hi, Option.bind_some, nI_1, sticksByC c o hi, Option.bind_some, nI_two, nI_1, smN]
    by_cases hd : D i = 0
    · cases hk : IA (k i) 1
      · simp [hd, hk, hnd]
      · simp [hd, hk, hnd]
    · simp [hd, hnd]
  · intro n
    rw [X7_touches_4, c.1, if_pos (nI_le (Nat.le_refl _) (by omega)), stuckCountC c o, Option.bind_some, nI_1, pk_mul, TW]
theorem waysM (c : MV P k t l h a d mi ma) (o : OKV P k t h a D) : X9_waysNow mi ma = some (nI (TW P k D)) := by
  have h7 := o.1
  rw [X9_waysNow]
  have h38 : ∀ (f : Int32 → Int32 → Option Int32) (v w z : Nat), X9_waysNow_38 mi ma f (nI v) (nI w) (nI z) = f (nI (v + z * (cnt (stk D) P + 1))) (nI (w + 1)) := by
    intro f v w z
    rw [X9_waysNow_38, stuckSetM c o, Option.bind_some, bitsStuckM o, Option.bind_some, nI_1, nI_1, pk_mul, nI_add]
  have key : ∀ i n, i ≤ P → P - i < n → X9_waysNow_4 mi ma n (nI (smN (hnd k D) i * (cnt (stk D) P + 1))) (nI i) = some (nI (TW P k D)) := by
    refine lu2 (X9_waysNow_4 mi ma) (fun i => nI (smN (hnd k D) i * (cnt (stk D) P + 1))) nI P (some (nI (TW P k D))) ?_ ?_
    · intro n i hi
      rw [X9_waysNow_4, c.1, if_neg (nI_ge hi (by omega)), isStuckM c o hi, Option.bind_some, sticksM c o hi (Or.inl rfl), Option.bind_some]
      rw [show X9_waysNow_38 mi ma (X9_waysNow_4 mi ma n) (nI (smN (hnd k D) i * (cnt (stk D) P + 1))) (nI i) 1 = _ from h38 _ _ _ 1, show X9_waysNow_38 mi ma (X9_waysNow_4 mi ma n) (nI (smN (hnd k D) i * (cnt (stk D) P + 1))) (nI i) 2 = _ from h38 _ _ _ 2, show X9_waysNow_38 mi ma (X9_waysNow_4 mi ma n) (nI (smN (hnd k D) i * (cnt (stk D) P + 1))) (nI i) 0 = _ from h38 _ _ _ 0]
      simp only [← Nat.add_mul, smN]
      by_cases hd : D i = 0
      · cases hk : IA (k i) 1
        · simp [hd, hk, hnd]
        · simp [hd, hk, hnd]
      · simp [hd, hnd]
    · intro n
      rw [X9_waysNow_4, c.1, if_pos (nI_le (Nat.le_refl _) (by omega)), TW]
  have := key 0 500 (by omega) (by omega)
  rw [smN, Nat.zero_mul] at this
  exact this
end
