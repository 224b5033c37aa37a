section
variable {P : Nat} {k t l h a : Nat → Int32} {d : Int32} {vS : Nat → Nat → Int32} {vF : Nat → Nat → Nat → Int32} {D : Nat → Nat} {mi : Nat → Int32} {ma : Nat → Nat → Int32}
variable {gi : Nat → Int32} {gl : Nat → Int64} {ga : Nat → Nat → Int32} {sN : Nat → Int32} {sF : Nat → Nat → Int32} {ml : Nat → Int64}
theorem smN_add (f g : Nat → Nat) : ∀ n, smN (fun i => f i + g i) n = smN f n + smN g n
  | 0 => rfl
  | n + 1 => by rw [smN, smN, smN, smN_add f g n]; omega
theorem smN_cong {f g : Nat → Nat} : ∀ {n : Nat}, (∀ i, i < n → f i = g i) → smN f n = smN g n
  | 0, _ => rfl
  | n + 1, q => by rw [smN, smN, smN_cong (fun i hi => q i (by omega)), q n (by omega)]
theorem smN_0 {f : Nat → Nat} : ∀ {n : Nat}, (∀ i, i < n → f i = 0) → smN f n = 0
  | 0, _ => rfl
  | n + 1, q => by rw [smN, smN_0 (fun i hi => q i (by omega)), q n (by omega)]
theorem smN_1 {f : Nat → Nat} {y : Nat} : ∀ {n : Nat}, y < n → (∀ i, i < n → i ≠ y → f i = 0) → smN f n = f y
  | 0, h, _ => by omega
  | n + 1, h, q => by
    rw [smN]
    by_cases e : y = n
    · subst e; rw [smN_0 (fun i hi => q i (by omega) (by omega))]; omega
    · rw [smN_1 (n := n) (by omega) (fun i hi => q i (by omega)), q n (by omega) (fun z => e z.symm), Nat.add_zero]
/-- the one whom one HANGS on is a CHILD -/
def HC (k h : Nat → Int32) : Nat → Bool := fun j => decide (0 ≤ (h j).toInt ∧ (h j).toInt ≤ 6) && decide (k (h j).toNatClampNeg = 3)
theorem childs (o : OKV P k t h a D) : ∀ n, n ≤ P → smN (fun i => if k i = 3 then cnt (HS h (nI i)) n else 0) P = cnt (HC k h) n
  | 0, _ => smN_0 (fun i _ => by rw [cnt]; split <;> rfl)
  | n + 1, hn => by
    have h7 := o.1
    have ih := childs o n (by omega)
    rw [cnt, ← ih, show (fun i => if k i = 3 then cnt (HS h (nI i)) (n + 1) else 0) = (fun i => (if k i = 3 then cnt (HS h (nI i)) n else 0) + (if k i = 3 ∧ h n = nI i then 1 else 0)) from ?_, smN_add]
    · congr 1
      rcases o.2.2.2.1 n (by omega) with ⟨h1, h2⟩ | ⟨h1, h2⟩ | ⟨y, hy, h1, h2, h3⟩
      · rw [smN_0 (fun i hi => by rw [if_neg]; rw [h1]; exact fun z => (nI_ne9 (by omega)).1 z.2.symm), if_neg]
        rw [HC, h1]; show ¬ (decide (0 ≤ (-9 : Int) ∧ (-9 : Int) ≤ 6) && _) = true; simp
      · rw [smN_0 (fun i hi => by rw [if_neg]; rw [h1]; exact fun z => (nI_ne9 (by omega)).2 z.2.symm), if_neg]
        rw [HC, h1]; show ¬ (decide (0 ≤ (9 : Int) ∧ (9 : Int) ≤ 6) && _) = true; simp
      · rw [smN_1 (y := y) hy (fun i hi ne => by rw [if_neg]; rw [h1]; exact fun z => ne ((nI_eq (by omega) (by omega)).mp z.2).symm)]
        have e : HC k h n = decide (k y = 3) := by
          rw [HC, h1, toI_nI (by omega), cl_nI (by omega)]
          have : (0 : Int) ≤ (y : Int) ∧ (y : Int) ≤ 6 := by omega
          simp [this]
        rw [e]
        by_cases e3 : k y = 3
        · rw [if_pos ⟨e3, h1⟩]; simp [e3]
        · rw [if_neg (fun z => e3 z.1)]; simp [e3]
    · funext i
      by_cases e3 : k i = 3
      · rw [if_pos e3, if_pos e3, cnt]
        by_cases e : h n = nI i
        · simp [HS, e, e3]
        · simp [HS, e, e3]
      · rw [if_neg e3, if_neg e3, if_neg (fun z => e3 z.1)]
theorem onChildC (c : CV P k t l h a d vS vF) (o : OKV P k t h a D) : X7_hangersOnChildren vS vF = some (nI (cnt (HC k h) P)) := by
  have h7 := o.1
  rw [X7_hangersOnChildren, ← childs o P (Nat.le_refl _)]
  refine lu2 (X7_hangersOnChildren_4 vS vF) (fun i => nI (smN (fun i => if k i = 3 then cnt (HS h (nI i)) P else 0) i)) nI P _ ?_ ?_ 0 500 (by omega) (by omega)
  · intro n i hi
    rw [X7_hangersOnChildren_4, c.1, if_neg (nI_ge hi (by omega)), show X7_isOf vS vF (nI i) 3 = _ from isOfC c o hi (w := 3) (by omega) (by omega), Option.bind_some, IA3, hangersC c o (nI_ne9 (by omega)).1, Option.bind_some, bitc _ (bset_lt7 h7), Option.bind_some, pcn_bset h7, nI_add, nI_1, smN]
    by_cases e3 : k i = 3
    · simp [e3]
    · simp [e3]
  · intro n
    rw [X7_hangersOnChildren_4, c.1, if_pos (nI_le (Nat.le_refl _) (by omega))]
theorem onChildM (m : MV P k t l h a d mi ma) (o : OKV P k t h a D) : X9_hangOnChildren mi ma = some (nI (cnt (HC k h) P)) := by
  have h7 := o.1
  rw [X9_hangOnChildren]
  refine lu2 (X9_hangOnChildren_4 mi ma) (fun i => nI (cnt (HC k h) i)) nI P _ ?_ ?_ 0 500 (by omega) (by omega)
  · intro n i hi
    have z0 : ∀ q : Nat, nI q + 0 = nI q := fun q => by simp
    rw [X9_hangOnChildren_4, m.1, if_neg (nI_ge hi (by omega)), gd_nI (by omega) (by omega), gd_nI (by omega) (by omega), cl_nI (by omega), (m.2.2 i hi).2.2.2.1, inI _ 0 6 0 6 rfl rfl, Option.bind_some, nI_1, nI_1, z0, cnt]
    rcases o.2.2.2.1 i hi with ⟨h1, h2⟩ | ⟨h1, h2⟩ | ⟨y, hy, h1, h2, h3⟩
    · have e : HC k h i = false := by rw [HC, h1]; rfl
      rw [h1, if_neg (show ¬ ((0 : Int) ≤ (-9 : Int32).toInt ∧ (-9 : Int32).toInt ≤ 6) by decide), if_pos rfl, e]; rfl
    · have e : HC k h i = false := by rw [HC, h1]; rfl
      rw [h1, if_neg (show ¬ ((0 : Int) ≤ (9 : Int32).toInt ∧ (9 : Int32).toInt ≤ 6) by decide), if_pos rfl, e]; rfl
    · have hin : (0 : Int) ≤ (y : Int) ∧ (y : Int) ≤ 6 := by omega
      have e : HC k h i = decide (k y = 3) := by
        rw [HC, h1, toI_nI (by omega), cl_nI (by omega)]; simp [hin]
      rw [h1, toI_nI (by omega), if_pos hin, if_neg one_ne, gd_nI (by omega) (by omega), cl_nI (by omega), (m.2.2 y hy).1, e]
      by_cases e3 : k y = 3
      · simp [e3]
      · simp [e3]
  · intro n
    rw [X9_hangOnChildren_4, m.1, if_pos (nI_le (Nat.le_refl _) (by omega))]
theorem st_mark (R : Rel gi gl ga vS vF sN sF mi ml ma) (x y : Int32) : ∃ r gi' ga' mi' ma', X8_mark vS vF x y gi ga = some (r, gi', ga') ∧ X9_mark x y mi ma = some (r, mi', ma') ∧ Rel gi' gl ga' vS vF sN sF mi' ml ma' := by
  obtain ⟨P, k, t, l, h, a, d, D, c, m, o, -⟩ := R.2.2.2.view
  have h7 := o.1
  rw [X8_mark, X9_mark]
  rcases one_cases c.1 m.1 o.1 x with ⟨z, hz, rfl, h1, h2⟩ | ⟨-, h1, h2⟩
  · rw [h1, h2, Option.bind_some, Option.bind_some, if_neg one_ne, if_neg one_ne, inI _ 1 5 1 5 rfl rfl, Option.bind_some]
    have y0 : y ≤ 0 ↔ y.toInt ≤ 0 := Int32.le_iff_toInt_le
    have y6 : y < 6 ↔ y.toInt < 6 := Int32.lt_iff_toInt_lt
    by_cases hw : 1 ≤ y.toInt ∧ y.toInt ≤ 5
    · obtain ⟨w, hw6, rfl⟩ := toI_ex (x := y) (N := 6) (by omega) (by omega)
      rw [toI_nI (by omega)] at hw
      rw [if_neg (by rw [y0, toI_nI (by omega)]; omega), if_pos (by rw [y6, toI_nI (by omega)]; omega), if_pos (show (1 : Int) ≤ (nI w).toInt ∧ (nI w).toInt ≤ 5 by rw [toI_nI (by omega)]; omega), if_neg one_ne, isOfC c o hz (by omega) (by omega), isOfM m o hz (by omega) (by omega), Option.bind_some, Option.bind_some]
      cases hI : IA (k z) w
      · refine ⟨-3, _, _, _, _, ?_, ?_, Rel_found R (f := 3) (by omega)⟩
        · rw [if_pos f0, show X8_found 3 gi ga = _ from foundC (f := 3) (by omega) (by omega)]; rfl
        · rw [if_pos f0, show X9_finds 3 mi ma = _ from findsM (f := 3) (by omega)]; rfl
      · rw [if_neg t1, if_neg t1]
        rcases (show w = 1 ∨ w = 2 ∨ w = 3 ∨ w = 4 ∨ w = 5 by omega) with rfl | rfl | rfl | rfl | rfl
        · rw [if_pos (show nI 1 = 1 from rfl), if_pos (show nI 1 = 1 from rfl), isStuckC c o hz, Option.bind_some, gd_nI (by omega) (by omega), gd_nI (by omega) (by omega), cl_nI (by omega), (c.2.2 z hz).2.2.2.2, (m.2.2 z hz).2.2.2.2]
          rcases o.2.2.2.2.2 z hz with ⟨g1, g2⟩ | ⟨g1, g2⟩
          · exact ⟨0, gi, ga, mi, ma, by rw [if_pos g2, if_pos rfl], by rw [g1, if_neg (by decide)], R⟩
          · rw [if_neg g2, if_neg one_ne]
            by_cases e : a z = 1
            · exact ⟨1, gi, ga, mi, ma, by rw [if_pos e], by rw [if_pos e], R⟩
            · exact ⟨0, gi, ga, mi, ma, by rw [if_neg e], by rw [if_neg e], R⟩
        · rw [if_neg (show ¬ nI 2 = 1 by decide), if_neg (show ¬ nI 2 = 1 by decide), if_pos (show nI 2 = 2 from rfl), if_pos (show nI 2 = 2 from rfl), gd_nI (by omega) (by omega), cl_nI (by omega), (c.2.2 z hz).2.1, sightC c o hz, Option.bind_some, X9_shortOf, gd_nI (by omega) (by omega), cl_nI (by omega), (m.2.2 z hz).2.1, sightM m o hz, Option.bind_some]
          refine ⟨_, gi, ga, mi, ma, rfl, ?_, R⟩
          rw [clip (fun v => some (v, mi, ma))]
          split <;> rfl
        · rw [if_neg (show ¬ nI 3 = 1 by decide), if_neg (show ¬ nI 3 = 1 by decide), if_neg (show ¬ nI 3 = 2 by decide), if_neg (show ¬ nI 3 = 2 by decide), if_pos (show nI 3 = 3 from rfl), if_pos (show nI 3 = 3 from rfl), onChildC c o, onChildM m o]
          exact ⟨_, gi, ga, mi, ma, rfl, rfl, R⟩
        · rw [if_neg (show ¬ nI 4 = 1 by decide), if_neg (show ¬ nI 4 = 1 by decide), if_neg (show ¬ nI 4 = 2 by decide), if_neg (show ¬ nI 4 = 2 by decide), if_neg (show ¬ nI 4 = 3 by decide), if_neg (show ¬ nI 4 = 3 by decide), if_pos (show nI 4 = 4 from rfl), if_pos (show nI 4 = 4 from rfl), deepestC c o, deepestM m o]
          exact ⟨_, gi, ga, mi, ma, rfl, rfl, R⟩
        · rw [if_neg (show ¬ nI 5 = 1 by decide), if_neg (show ¬ nI 5 = 1 by decide), if_neg (show ¬ nI 5 = 2 by decide), if_neg (show ¬ nI 5 = 2 by decide), if_neg (show ¬ nI 5 = 3 by decide), if_neg (show ¬ nI 5 = 3 by decide), if_neg (show ¬ nI 5 = 4 by decide), if_neg (show ¬ nI 5 = 4 by decide), fedByC c o (by omega), if_pos hz, Option.bind_some, clr_bit _ (bset_lt7 h7) z (by omega), fed_clr o hz, bitc _ (bset_lt7 h7), fedByM m o hz, Option.bind_some, Option.bind_some, bitsM _ (bset_lt7 h7)]
          exact ⟨_, gi, ga, mi, ma, rfl, rfl, R⟩
    · rw [if_neg hw, if_pos rfl]
      refine ⟨-1, gi, ga, mi, ma, ?_, rfl, R⟩
      split
      · rfl
      · rename_i q; rw [y0] at q; rw [if_neg (by rw [y6]; omega)]
  · rw [h1, h2]
    exact ⟨-1, gi, ga, mi, ma, rfl, rfl, R⟩
end
