section
variable {P : Nat} {k t l h a : Nat → Int32} {d : Int32} {vS : Nat → Nat → Int32} {vF : Nat → Nat → Nat → Int32} {D : Nat → Nat} {mi : Nat → Int32} {ma : Nat → Nat → Int32}
variable {gi : Nat → Int32} {gl : Nat → Int64} {ga : Nat → Nat → Int32} {sN : Nat → Int32} {sF : Nat → Nat → Int32} {ml : Nat → Int64}
/-- how many others are free -/
def FO (P : Nat) (D : Nat → Nat) : Nat := P - cnt (stk D) P - 1
theorem cnt_free (o : OKV P k t h a D) {x : Nat} (hx : x < P) (hd : D x = 0) : cnt (stk D) P + 1 ≤ P ∧ cnt (fun y => decide (y ≠ x) && !(stk D y)) P = FO P D := by
  have h1 := cnt_not (stk D) P
  have h2 := cnt_rem (fun y => !(stk D y)) (x := x) (by simp [stk, hd]) P hx
  refine ⟨by omega, ?_⟩
  unfold FO; omega
theorem freeOthersC (c : CV P k t l h a d vS vF) (o : OKV P k t h a D) {x : Nat} (hx : x < P) (hd : D x = 0) : X7_freeOthers vS vF = some (nI (FO P D)) := by
  have h7 := o.1
  have := (cnt_free o hx hd).1
  rw [X7_freeOthers, stuckCountC c o, Option.bind_some, c.1, pk_sub (by omega), show (1 : Int32) = nI 1 from rfl, pk_sub (by omega), FO]
theorem freeOthersM (c : MV P k t l h a d mi ma) (o : OKV P k t h a D) {x : Nat} (hx : x < P) (hd : D x = 0) : X9_freeOthers mi ma (nI x) = some (nI (FO P D)) := by
  have h7 := o.1
  rw [← (cnt_free o hx hd).2, X9_freeOthers]
  refine lu3 (X9_freeOthers_4 mi ma) (fun _ => nI x) (fun i => nI (cnt (fun y => decide (y ≠ x) && !(stk D y)) i)) nI P _ ?_ ?_ 0 500 (by omega) (by omega)
  · intro n i hi
    rw [X9_freeOthers_4, c.1, if_neg (nI_ge hi (by omega)), isStuckM c o hi, Option.bind_some, nI_1, nI_1, cnt, show nI (cnt (fun y => decide (y ≠ x) && !(stk D y)) i) + 0 = nI (cnt (fun y => decide (y ≠ x) && !(stk D y)) i) by simp]
    by_cases e : i = x
    · subst e; simp
    · rw [if_neg (fun q => e ((nI_eq (by omega) (by omega)).mp q))]
      by_cases hd : D i = 0
      · simp [e, hd, stk]
      · simp [e, hd, stk]
  · intro n
    rw [X9_freeOthers_4, c.1, if_pos (nI_le (Nat.le_refl _) (by omega))]
/-- the larger of a number and 0, written twice -/
theorem clip {v : Int32} {α : Type} (f : Int32 → α) : f (if (0 : Int32) < v then v else 0) = (if 0 ≤ v then f v else f 0) := by
  by_cases h1 : (0 : Int32) < v
  · rw [if_pos h1, if_pos (fa_of_lt h1).1]
  · rw [if_neg h1]
    by_cases h2 : (0 : Int32) ≤ v
    · have : v = 0 := by
        have a1 : ¬ (0 : Int32).toInt < v.toInt := fun q => h1 (Int32.lt_iff_toInt_lt.mpr q)
        have a2 := Int32.le_iff_toInt_le.mp h2
        rw [zI] at a1 a2
        exact Int32.toInt_inj.mp (by rw [zI]; omega)
      rw [if_pos h2, this]
    · rw [if_neg h2]
theorem le_nlt (a b : Int32) : a ≤ b ↔ ¬ b < a := by
  rw [Int32.le_iff_toInt_le, Int32.lt_iff_toInt_lt]; omega
theorem st_place (R : RV vS vF mi ma) (x y : Int32) : ∃ r, X8_place vS vF x y = some r ∧ X9_place mi ma x y = some r := by
  obtain ⟨P, k, t, l, h, a, d, D, c, m, o, -⟩ := R.view
  have h7 := o.1
  rw [X8_place, X9_place]
  rcases one_cases c.1 m.1 o.1 x with ⟨z, hz, rfl, h1, h2⟩ | ⟨-, h1, h2⟩
  · rw [h1, h2, Option.bind_some, Option.bind_some, if_neg one_ne, if_neg one_ne, inI _ 1 7 1 7 rfl rfl, Option.bind_some]
    have y1 : y < 1 ↔ y.toInt < 1 := Int32.lt_iff_toInt_lt
    have y7 : y ≤ 7 ↔ y.toInt ≤ 7 := Int32.le_iff_toInt_le
    by_cases hw : 1 ≤ y.toInt ∧ y.toInt ≤ 7
    · rw [if_pos hw, if_neg (by rw [y1]; omega), if_pos (y7.mpr hw.2), if_neg one_ne, isStuckC c o hz, isStuckM m o hz, Option.bind_some, Option.bind_some]
      by_cases hd : D z = 0
      · rw [if_pos hd, if_pos rfl, if_pos rfl, deepestC c o, deepestM m o, Option.bind_some, Option.bind_some, freeOthersC c o hz hd, freeOthersM m o hz hd]
        have h0 : ¬ nI (FO P D) < 0 := nI_pos (by unfold FO; omega)
        rw [lt_, clip (fun v3 => (some (nI (FO P D))).bind fun r59 => if r59 < v3 then some (-9 : Int32) else some (v3 + 1)), Option.bind_some, Option.bind_some]
        generalize y - 1 - nI (mxD D P) = v
        by_cases q1 : 0 ≤ v
        · by_cases q2 : nI (FO P D) < v
          · exact ⟨-9, by rw [if_pos q1, if_pos q2], by rw [if_pos q1, Option.bind_some, if_neg (fun w => (le_nlt _ _).mp w q2)]⟩
          · exact ⟨v + 1, by rw [if_pos q1, if_neg q2], by rw [if_pos q1, Option.bind_some, if_pos ((le_nlt _ _).mpr q2)]⟩
        · exact ⟨0 + 1, by rw [if_neg q1, if_neg h0], by rw [if_neg q1, Option.bind_some, if_pos ((le_nlt _ _).mpr h0)]⟩
      · rw [if_neg hd, if_neg one_ne, if_neg one_ne]; exact ⟨-9, rfl, rfl⟩
    · rw [if_neg hw, if_pos rfl]
      refine ⟨-1, ?_, rfl⟩
      split
      · rfl
      · rename_i q; rw [y1] at q; rw [if_neg (by rw [y7]; omega)]
  · rw [h1, h2]
    exact ⟨-1, rfl, rfl⟩
theorem st_fun (R : RV vS vF mi ma) (x : Int32) : ∃ r, X8_fun vS vF x = some r ∧ X9_fun mi ma x = some r := by
  obtain ⟨P, k, t, l, h, a, d, D, c, m, o, -⟩ := R.view
  have h7 := o.1
  rw [X8_fun, X9_fun]
  rcases one_cases c.1 m.1 o.1 x with ⟨z, hz, rfl, h1, h2⟩ | ⟨-, h1, h2⟩
  · rw [h1, h2, Option.bind_some, Option.bind_some, if_neg one_ne, if_neg one_ne, isStuckC c o hz, isStuckM m o hz, Option.bind_some, Option.bind_some]
    by_cases hd : D z = 0
    · obtain ⟨g0, g1, g3, g4, g5⟩ := m.2.2 z hz
      have h80 : ∀ v : Int32, X9_fun_80 mi ma (nI z) v = some (if k z = 3 ∨ ¬ d - l z < 365 then (if nI (FO P D) < v then -9 else v) else -9) := by
        intro v
        have h108 : X9_fun_108 mi ma (nI z) v = some (if nI (FO P D) < v then -9 else v) := by
          rw [X9_fun_108, if_neg one_ne, freeOthersM m o hz hd, Option.bind_some]; split <;> rfl
        rw [X9_fun_80, gd_nI (by omega) (by omega), gd_nI (by omega) (by omega), cl_nI (by omega), g0, m.2.1, g3, h108]
        by_cases e3 : k z = 3
        · rw [if_pos e3, if_pos (Or.inl e3)]
        · rw [if_neg e3]
          by_cases hl : d - l z < 365
          · rw [if_pos hl, if_pos rfl, if_neg (fun q => q.elim e3 (fun q => q hl))]
          · rw [if_neg hl, if_pos (Or.inr hl)]
      have model : (gd (ib (nI z) 7) (if ma 0 (nI z).toNatClampNeg = 3 then (X9_stuckSet mi ma).bind (fun r33 => (X9_bits r33).bind (fun r36 => (if 0 ≤ ((1 : Int32) - r36) then X9_fun_80 mi ma (nI z) ((1 : Int32) - r36) else X9_fun_80 mi ma (nI z) (0 : Int32)))) else gd (ib (nI z) (7)) ((X9_isOf ma (nI z) (2 : Int32)).bind (fun r52 => (if r52 = 0 then (X9_sightOf mi ma (nI z)).bind (fun r66 => (if 0 ≤ (((ma 1 (nI z).toNatClampNeg) + (0 : Int32)) - r66) then X9_fun_80 mi ma (nI z) (((ma 1 (nI z).toNatClampNeg) + (0 : Int32)) - r66) else X9_fun_80 mi ma (nI z) (0 : Int32))) else (X9_sightOf mi ma (nI z)).bind (fun r66 => (if 0 ≤ (((ma 1 (nI z).toNatClampNeg) + (1 : Int32)) - r66) then X9_fun_80 mi ma (nI z) (((ma 1 (nI z).toNatClampNeg) + (1 : Int32)) - r66) else X9_fun_80 mi ma (nI z) (0 : Int32)))))))) = X9_fun_80 mi ma (nI z) (if (0 : Int32) < DU k t z - nI (SG P k D z) then DU k t z - nI (SG P k D z) else 0) := by
        rw [clip (X9_fun_80 mi ma (nI z)), gd_nI (by omega) (by omega), gd_nI (by omega) (by omega), cl_nI (by omega), g0, g1, stuckSetM m o, Option.bind_some, bitsStuckM o, Option.bind_some, show X9_isOf ma (nI z) 2 = _ from isOfM m o hz (w := 2) (by omega) (by omega), Option.bind_some, sightM m o hz, Option.bind_some, Option.bind_some, DU]
        by_cases e3 : k z = 3
        · have e4 : SG P k D z = cnt (stk D) P := by rw [SG, if_neg (by rw [e3]; decide)]
          rw [if_pos e3, if_pos e3, e4]
        · rw [if_neg e3, if_neg e3]
          cases IA (k z) 2
          · simp
          · simp
      rw [if_pos hd, if_pos rfl, if_pos rfl, model, h80, isReadyC c o hz, Option.bind_some, sightDueC c o hz, Option.bind_some, sightC c o hz, Option.bind_some, freeOthersC c o hz hd]
      by_cases hr : k z = 3 ∨ ¬ d - l z < 365
      · rw [if_pos hr, if_pos hr, if_neg one_ne]
        refine ⟨_, ?_, rfl⟩
        rw [lt_, Option.bind_some]
        (repeat' split) <;> rfl
      · rw [if_neg hr, if_neg hr, if_pos rfl]; exact ⟨-9, rfl, rfl⟩
    · rw [if_neg hd, if_neg one_ne, if_neg one_ne]; exact ⟨-4, rfl, rfl⟩
  · rw [h1, h2]
    exact ⟨-1, rfl, rfl⟩
end
