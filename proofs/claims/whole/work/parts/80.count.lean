/-! count, digest -/
def dg (f : Nat → Int32) : Nat → Int64 → Int64
  | 0, v => v
  | n + 1, v => 31 * dg f n v + (f n).toInt64
theorem dg_cong {f g : Nat → Int32} (v : Int64) : ∀ n, (∀ i, i < n → f i = g i) → dg f n v = dg g n v
  | 0, _ => rfl
  | n + 1, h => by rw [dg, dg, dg_cong v n (fun i hi => h i (by omega)), h n (by omega)]
section
variable {P n : Nat} {k t l h a : Nat → Int32} {d : Int32} {vS : Nat → Nat → Int32} {vF : Nat → Nat → Nat → Int32} {D : Nat → Nat} {mi : Nat → Int32} {ma : Nat → Nat → Int32}
variable {gi : Nat → Int32} {gl : Nat → Int64} {ga : Nat → Nat → Int32} {sN : Nat → Int32} {sF : Nat → Nat → Int32} {ml : Nat → Int64}
theorem thereRC : X8_thereOf_rows sN = some (nI (cnt (fun i => decide (0 ≤ sN i)) 6)) := by
  rw [X8_thereOf_rows]
  refine lu2 (X8_thereOf_rows_4 sN) (fun i => nI (cnt (fun i => decide (0 ≤ sN i)) i)) nI 6 _ ?_ ?_ 0 500 (by omega) (by omega)
  · intro n i hi
    rw [X8_thereOf_rows_4, show Int32.ofNat 6 = nI 6 from rfl, if_neg (nI_ge hi (by omega)), gd_nI hi (by omega), cl_nI (by omega), isMissingC, Option.bind_some, nI_1, nI_1, cnt]
    by_cases e : 0 ≤ sN i
    · simp [e]
    · simp [e]
  · intro n
    rw [X8_thereOf_rows_4, show Int32.ofNat 6 = nI 6 from rfl, if_pos (nI_le (Nat.le_refl _) (by omega))]
theorem thereTC : X8_thereOf_texts sN = some (nI (cnt (fun i => decide (0 ≤ sN (6 + i))) 4)) := by
  rw [X8_thereOf_texts]
  refine lu2 (X8_thereOf_texts_4 sN) (fun i => nI (cnt (fun i => decide (0 ≤ sN (6 + i))) i)) nI 4 _ ?_ ?_ 0 500 (by omega) (by omega)
  · intro n i hi
    rw [X8_thereOf_texts_4, show Int32.ofNat 4 = nI 4 from rfl, if_neg (nI_ge hi (by omega)), gd_nI hi (by omega), cl_nI (by omega), isMissingC, Option.bind_some, nI_1, nI_1, cnt]
    by_cases e : 0 ≤ sN (6 + i)
    · simp [e]
    · simp [e]
  · intro n
    rw [X8_thereOf_texts_4, show Int32.ofNat 4 = nI 4 from rfl, if_pos (nI_le (Nat.le_refl _) (by omega))]
theorem keptCountC : X8_keptCount vS = some (nI (cnt (fun i => decide (vS (1 + i) 0 ≠ 0)) 3)) := by
  rw [X8_keptCount]
  refine lu2 (X8_keptCount_4 vS) (fun i => nI (cnt (fun i => decide (vS (1 + i) 0 ≠ 0)) i)) nI 3 _ ?_ ?_ 0 500 (by omega) (by omega)
  · intro n i hi
    rw [X8_keptCount_4, show (3 : Int32) = nI 3 from rfl, if_neg (nI_ge hi (by omega)), gd_nI hi (by omega), cl_nI (by omega), nI_1, nI_1, cnt]
    by_cases e : vS (1 + i) 0 = 0
    · simp [e]
    · simp [e]
  · intro n
    rw [X8_keptCount_4, show (3 : Int32) = nI 3 from rfl, if_pos (nI_le (Nat.le_refl _) (by omega))]
theorem there10M : X9_there_10 ma = some (nI (cnt (fun i => decide (0 ≤ ma 10 i)) 6)) := by
  rw [X9_there_10]
  refine lu2 (X9_there_10_4 ma) (fun i => nI (cnt (fun i => decide (0 ≤ ma 10 i)) i)) nI 6 _ ?_ ?_ 0 500 (by omega) (by omega)
  · intro n i hi
    rw [X9_there_10_4, show Int32.ofNat 6 = nI 6 from rfl, if_neg (nI_ge hi (by omega)), gd_nI hi (by omega), cl_nI (by omega), nI_1, nI_1, cnt]
    by_cases e : 0 ≤ ma 10 i
    · simp [e]
    · simp [e]
  · intro n
    rw [X9_there_10_4, show Int32.ofNat 6 = nI 6 from rfl, if_pos (nI_le (Nat.le_refl _) (by omega))]
theorem there12M : X9_there_12 ma = some (nI (cnt (fun i => decide (0 ≤ ma 12 i)) 4)) := by
  rw [X9_there_12]
  refine lu2 (X9_there_12_4 ma) (fun i => nI (cnt (fun i => decide (0 ≤ ma 12 i)) i)) nI 4 _ ?_ ?_ 0 500 (by omega) (by omega)
  · intro n i hi
    rw [X9_there_12_4, show Int32.ofNat 4 = nI 4 from rfl, if_neg (nI_ge hi (by omega)), gd_nI hi (by omega), cl_nI (by omega), nI_1, nI_1, cnt]
    by_cases e : 0 ≤ ma 12 i
    · simp [e]
    · simp [e]
  · intro n
    rw [X9_there_12_4, show Int32.ofNat 4 = nI 4 from rfl, if_pos (nI_le (Nat.le_refl _) (by omega))]
theorem there14M : X9_there_14 ma = some (nI (cnt (fun i => decide (0 ≤ ma 14 i)) 3)) := by
  rw [X9_there_14]
  refine lu2 (X9_there_14_4 ma) (fun i => nI (cnt (fun i => decide (0 ≤ ma 14 i)) i)) nI 3 _ ?_ ?_ 0 500 (by omega) (by omega)
  · intro n i hi
    rw [X9_there_14_4, show Int32.ofNat 3 = nI 3 from rfl, if_neg (nI_ge hi (by omega)), gd_nI hi (by omega), cl_nI (by omega), nI_1, nI_1, cnt]
    by_cases e : 0 ≤ ma 14 i
    · simp [e]
    · simp [e]
  · intro n
    rw [X9_there_14_4, show Int32.ofNat 3 = nI 3 from rfl, if_pos (nI_le (Nat.le_refl _) (by omega))]
theorem glovedC (c : CV P k t l h a d vS vF) (o : OKV P k t h a D) : X7_glovedCount vS vF = some (nI (cnt (fun x => IA (k x) 1) P)) := by
  have h7 := o.1
  rw [X7_glovedCount]
  refine lu2 (X7_glovedCount_4 vS vF) (fun i => nI (cnt (fun x => IA (k x) 1) i)) nI P _ ?_ ?_ 0 500 (by omega) (by omega)
  · intro n i hi
    rw [X7_glovedCount_4, c.1, if_neg (nI_ge hi (by omega)), show X7_isOf vS vF (nI i) 1 = _ from isOfC c o hi (w := 1) (by omega) (by omega), Option.bind_some, nI_1, nI_1, cnt]
    cases IA (k i) 1 <;> simp
  · intro n
    rw [X7_glovedCount_4, c.1, if_pos (nI_le (Nat.le_refl _) (by omega))]
theorem glovedM (c : MV P k t l h a d mi ma) (o : OKV P k t h a D) : X9_gloved mi ma = some (nI (cnt (fun x => IA (k x) 1) P)) := by
  have h7 := o.1
  rw [X9_gloved]
  refine lu2 (X9_gloved_4 mi ma) (fun i => nI (cnt (fun x => IA (k x) 1) i)) nI P _ ?_ ?_ 0 500 (by omega) (by omega)
  · intro n i hi
    rw [X9_gloved_4, c.1, if_neg (nI_ge hi (by omega)), show X9_isOf ma (nI i) 1 = _ from isOfM c o hi (w := 1) (by omega) (by omega), Option.bind_some, nI_1, nI_1, cnt]
    cases IA (k i) 1 <;> simp
  · intro n
    rw [X9_gloved_4, c.1, if_pos (nI_le (Nat.le_refl _) (by omega))]
theorem RK_there {q : Nat} (h7 : P ≤ 7) (R : RK P k vS vF ma q) : (0 ≤ ma 14 q ↔ vS (1 + q) 0 ≠ 0) ∧ (if vS (1 + q) 0 = 0 then (-1 : Int32) else vS (1 + q) 2) = ma 14 q := by
  rcases R with ⟨h1, h2⟩ | ⟨p0, n, t, hH, hA, hL, hD, DD, vo, vw, mw⟩
  · rw [h1, h2]; exact ⟨by decide, rfl⟩
  · have hn := vo.1
    have e0 : ¬ vS (1 + q) 0 = 0 := by rw [vw.1]; exact nI_ne0 (by omega) (by omega)
    rw [if_neg e0, vw.2.2.1, mw.2.1]
    exact ⟨⟨fun _ => e0, fun _ => nI_pos' (by omega)⟩, rfl⟩
theorem kept_all (R : RV vS vF mi ma) : ∀ q, q < 3 → (0 ≤ ma 14 q ↔ vS (1 + q) 0 ≠ 0) ∧ (if vS (1 + q) 0 = 0 then (-1 : Int32) else vS (1 + q) 2) = ma 14 q := by
  obtain ⟨P, k, h0, hk, ⟨n, t, hH, hA, hL, hD, DD, vo, vw, mw⟩, rk⟩ := R
  exact fun q hq => RK_there (vo.2 n (Nat.le_refl _)).1 (rk q hq)
theorem count_eq (R : Rel gi gl ga vS vF sN sF mi ml ma) {w : Nat} (hw : w < 9) : ∃ v, X8_counted vS vF sN (nI w) = some v ∧ X9_count mi ma (nI w) = some v := by
  have rk := kept_all R.2.2.2
  obtain ⟨P, k, t, l, h, a, d, D, c, m, o, e2⟩ := R.2.2.2.view
  have h7 := o.1
  have cs : w = 0 ∨ w = 1 ∨ w = 2 ∨ w = 3 ∨ w = 4 ∨ w = 5 ∨ w = 6 ∨ w = 7 ∨ w = 8 := by omega
  rcases cs with rfl | rfl | rfl | rfl | rfl | rfl | rfl | rfl | rfl
  · exact ⟨nI P, by rw [X8_counted, if_pos (show nI 0 = (0 : Int32) from rfl), c.1], by rw [X9_count, if_pos (show nI 0 = (0 : Int32) from rfl), m.1]⟩
  · exact ⟨vS 0 2, by rw [X8_counted, if_neg (show ¬ nI 1 = (0 : Int32) by decide), if_pos (show nI 1 = (1 : Int32) from rfl)], by rw [X9_count, if_neg (show ¬ nI 1 = (0 : Int32) by decide), if_pos (show nI 1 = (1 : Int32) from rfl), e2]⟩
  · exact ⟨d, by rw [X8_counted, if_neg (show ¬ nI 2 = (0 : Int32) by decide), if_neg (show ¬ nI 2 = (1 : Int32) by decide), if_pos (show nI 2 = (2 : Int32) from rfl), c.2.1], by rw [X9_count, if_neg (show ¬ nI 2 = (0 : Int32) by decide), if_neg (show ¬ nI 2 = (1 : Int32) by decide), if_pos (show nI 2 = (2 : Int32) from rfl), m.2.1]⟩
  · exact ⟨nI (cnt (stk D) P), by rw [X8_counted, if_neg (show ¬ nI 3 = (0 : Int32) by decide), if_neg (show ¬ nI 3 = (1 : Int32) by decide), if_neg (show ¬ nI 3 = (2 : Int32) by decide), if_pos (show nI 3 = (3 : Int32) from rfl), stuckCountC c o, Option.bind_some], by rw [X9_count, if_neg (show ¬ nI 3 = (0 : Int32) by decide), if_neg (show ¬ nI 3 = (1 : Int32) by decide), if_neg (show ¬ nI 3 = (2 : Int32) by decide), if_pos (show nI 3 = (3 : Int32) from rfl), stuckSetM m o, Option.bind_some, bitsStuckM o, Option.bind_some]⟩
  · exact ⟨nI (mxD D P), by rw [X8_counted, if_neg (show ¬ nI 4 = (0 : Int32) by decide), if_neg (show ¬ nI 4 = (1 : Int32) by decide), if_neg (show ¬ nI 4 = (2 : Int32) by decide), if_neg (show ¬ nI 4 = (3 : Int32) by decide), if_pos (show nI 4 = (4 : Int32) from rfl), deepestC c o, Option.bind_some], by rw [X9_count, if_neg (show ¬ nI 4 = (0 : Int32) by decide), if_neg (show ¬ nI 4 = (1 : Int32) by decide), if_neg (show ¬ nI 4 = (2 : Int32) by decide), if_neg (show ¬ nI 4 = (3 : Int32) by decide), if_pos (show nI 4 = (4 : Int32) from rfl), deepestM m o, Option.bind_some]⟩
  · exact ⟨nI (cnt (fun x => IA (k x) 1) P), by rw [X8_counted, if_neg (show ¬ nI 5 = (0 : Int32) by decide), if_neg (show ¬ nI 5 = (1 : Int32) by decide), if_neg (show ¬ nI 5 = (2 : Int32) by decide), if_neg (show ¬ nI 5 = (3 : Int32) by decide), if_neg (show ¬ nI 5 = (4 : Int32) by decide), if_pos (show nI 5 = (5 : Int32) from rfl), glovedC c o, Option.bind_some], by rw [X9_count, if_neg (show ¬ nI 5 = (0 : Int32) by decide), if_neg (show ¬ nI 5 = (1 : Int32) by decide), if_neg (show ¬ nI 5 = (2 : Int32) by decide), if_neg (show ¬ nI 5 = (3 : Int32) by decide), if_neg (show ¬ nI 5 = (4 : Int32) by decide), if_pos (show nI 5 = (5 : Int32) from rfl), glovedM m o, Option.bind_some]⟩
  · exact ⟨nI (cnt (fun i => decide (0 ≤ sN i)) 6), by rw [X8_counted, if_neg (show ¬ nI 6 = (0 : Int32) by decide), if_neg (show ¬ nI 6 = (1 : Int32) by decide), if_neg (show ¬ nI 6 = (2 : Int32) by decide), if_neg (show ¬ nI 6 = (3 : Int32) by decide), if_neg (show ¬ nI 6 = (4 : Int32) by decide), if_neg (show ¬ nI 6 = (5 : Int32) by decide), if_pos (show nI 6 = (6 : Int32) from rfl), thereRC, Option.bind_some], by rw [X9_count, if_neg (show ¬ nI 6 = (0 : Int32) by decide), if_neg (show ¬ nI 6 = (1 : Int32) by decide), if_neg (show ¬ nI 6 = (2 : Int32) by decide), if_neg (show ¬ nI 6 = (3 : Int32) by decide), if_neg (show ¬ nI 6 = (4 : Int32) by decide), if_neg (show ¬ nI 6 = (5 : Int32) by decide), if_pos (show nI 6 = (6 : Int32) from rfl), there10M, Option.bind_some, cnt_cong (q := fun i => decide (0 ≤ sN i)) (fun i hi => by rw [(R.1 i hi).1])]⟩
  · exact ⟨nI (cnt (fun i => decide (0 ≤ sN (6 + i))) 4), by rw [X8_counted, if_neg (show ¬ nI 7 = (0 : Int32) by decide), if_neg (show ¬ nI 7 = (1 : Int32) by decide), if_neg (show ¬ nI 7 = (2 : Int32) by decide), if_neg (show ¬ nI 7 = (3 : Int32) by decide), if_neg (show ¬ nI 7 = (4 : Int32) by decide), if_neg (show ¬ nI 7 = (5 : Int32) by decide), if_neg (show ¬ nI 7 = (6 : Int32) by decide), if_pos (show nI 7 = (7 : Int32) from rfl), thereTC, Option.bind_some], by rw [X9_count, if_neg (show ¬ nI 7 = (0 : Int32) by decide), if_neg (show ¬ nI 7 = (1 : Int32) by decide), if_neg (show ¬ nI 7 = (2 : Int32) by decide), if_neg (show ¬ nI 7 = (3 : Int32) by decide), if_neg (show ¬ nI 7 = (4 : Int32) by decide), if_neg (show ¬ nI 7 = (5 : Int32) by decide), if_neg (show ¬ nI 7 = (6 : Int32) by decide), if_pos (show nI 7 = (7 : Int32) from rfl), there12M, Option.bind_some, cnt_cong (q := fun i => decide (0 ≤ sN (6 + i))) (fun i hi => by rw [(R.2.1 i hi).1])]⟩
  · exact ⟨nI (cnt (fun i => decide (vS (1 + i) 0 ≠ 0)) 3), by rw [X8_counted, if_neg (show ¬ nI 8 = (0 : Int32) by decide), if_neg (show ¬ nI 8 = (1 : Int32) by decide), if_neg (show ¬ nI 8 = (2 : Int32) by decide), if_neg (show ¬ nI 8 = (3 : Int32) by decide), if_neg (show ¬ nI 8 = (4 : Int32) by decide), if_neg (show ¬ nI 8 = (5 : Int32) by decide), if_neg (show ¬ nI 8 = (6 : Int32) by decide), if_neg (show ¬ nI 8 = (7 : Int32) by decide), keptCountC, Option.bind_some], by rw [X9_count, if_neg (show ¬ nI 8 = (0 : Int32) by decide), if_neg (show ¬ nI 8 = (1 : Int32) by decide), if_neg (show ¬ nI 8 = (2 : Int32) by decide), if_neg (show ¬ nI 8 = (3 : Int32) by decide), if_neg (show ¬ nI 8 = (4 : Int32) by decide), if_neg (show ¬ nI 8 = (5 : Int32) by decide), if_neg (show ¬ nI 8 = (6 : Int32) by decide), if_neg (show ¬ nI 8 = (7 : Int32) by decide), if_pos (show nI 8 = (8 : Int32) from rfl), there14M, Option.bind_some, cnt_cong (fun i hi => decide_eq_decide.mpr (rk i hi).1)]⟩
theorem st_count (R : Rel gi gl ga vS vF sN sF mi ml ma) (x : Int32) : ∃ r, X8_count vS vF sN x = some r ∧ X9_count mi ma x = some r := by
  by_cases hx : 0 ≤ x.toInt ∧ x.toInt < (9 : Nat)
  · obtain ⟨w, hw, rfl⟩ := toI_ex (by omega) hx
    obtain ⟨v, v1, v2⟩ := count_eq R hw
    exact ⟨v, by rw [X8_count, if_neg (nI_pos (by omega)), if_pos (show nI w < 9 from (nI_lt hw (by omega) : _ < nI 9)), v1, Option.bind_some], v2⟩
  · refine ⟨-1, ?_, ?_⟩
    · rw [X8_count]
      by_cases h0 : x < 0
      · rw [if_pos h0]
      · rw [if_neg h0, if_neg]
        intro q
        have := Int32.lt_iff_toInt_lt.mp q
        have z : (9 : Int32).toInt = 9 := rfl
        rw [Int32.lt_iff_toInt_lt, zI] at h0
        omega
    · have ne : ∀ w : Nat, w < 9 → ¬ x = nI w := by
        intro w hw e
        rw [e, toI_nI (by omega)] at hx; omega
      rw [X9_count, if_neg (show ¬ x = (0 : Int32) from ne 0 (by omega)), if_neg (show ¬ x = (1 : Int32) from ne 1 (by omega)), if_neg (show ¬ x = (2 : Int32) from ne 2 (by omega)), if_neg (show ¬ x = (3 : Int32) from ne 3 (by omega)), if_neg (show ¬ x = (4 : Int32) from ne 4 (by omega)), if_neg (show ¬ x = (5 : Int32) from ne 5 (by omega)), if_neg (show ¬ x = (6 : Int32) from ne 6 (by omega)), if_neg (show ¬ x = (7 : Int32) from ne 7 (by omega)), if_neg (show ¬ x = (8 : Int32) from ne 8 (by omega))]
/-! the digest, loop by loop -/
theorem mixC {j N : Nat} (hN : N ≤ sL j) (hs : sz N (sN j)) (v : Int64) : X6_mixInto sN sF j v = some (dg (sF j) (sN j).toNatClampNeg (31 * v + (sN j).toInt64)) := by
  have hl := sL_lt j
  rw [X6_mixInto]
  rcases hs with e | ⟨m, hm, e⟩
  · rw [X6_mixInto_15, if_pos (by rw [e]; decide), e]; rfl
  · rw [e, cl_nI (by omega)]
    refine lu2 (X6_mixInto_15 sN sF j) (fun i => dg (sF j) i (31 * v + (nI m).toInt64)) nI m _ ?_ ?_ 0 500 (by omega) (by omega)
    · intro n i hi
      rw [X6_mixInto_15, e, if_neg (nI_ge hi (by omega)), gd_nI (by omega) (by omega), lt_, cl_nI (by omega), nI_1, dg]
    · intro n
      rw [X6_mixInto_15, e, if_pos (nI_le (Nat.le_refl _) (by omega))]
theorem mixRM {r : Nat} (hr : r < 6) (hs : sz 40 (ma 10 r)) (v : Int64) (k0 : Int64 → Int32 → Option Int64) : X9_digest_130 mi ma k0 500 v (nI r) 0 = k0 (dg (fun i => ma 11 (40 * r + i)) (ma 10 r).toNatClampNeg v) (nI (r + 1)) := by
  rcases hs with e | ⟨m, hm, e⟩
  · rw [X9_digest_130, gd_nI hr (by omega), cl_nI (by omega), if_pos (by rw [e]; decide), e, nI_1]; rfl
  · rw [e, cl_nI (by omega)]
    have key := lu3 (X9_digest_130 mi ma k0) (fun i => dg (fun i => ma 11 (40 * r + i)) i v) (fun _ => nI r) nI m (k0 (dg (fun i => ma 11 (40 * r + i)) m v) (nI (r + 1))) ?_ ?_ 0 500 (by omega) (by omega)
    · exact key
    · intro n i hi
      rw [X9_digest_130, gd_nI hr (by omega), cl_nI (by omega), e, if_neg (nI_ge hi (by omega)), show (40 : Int32) * nI r + nI i = nI (40 * r + i) from mixN 40 r i, gd_nI (by omega) (by omega), lt_, cl_nI (by omega), nI_1, dg]
    · intro n
      rw [X9_digest_130, gd_nI hr (by omega), cl_nI (by omega), e, if_pos (nI_le (Nat.le_refl _) (by omega)), nI_1]
theorem mixTM {r : Nat} (hr : r < 4) (hs : sz 60 (ma 12 r)) (v : Int64) (k0 : Int64 → Int32 → Option Int64) : X9_digest_197 mi ma k0 500 v (nI r) 0 = k0 (dg (fun i => ma 13 (60 * r + i)) (ma 12 r).toNatClampNeg v) (nI (r + 1)) := by
  rcases hs with e | ⟨m, hm, e⟩
  · rw [X9_digest_197, gd_nI hr (by omega), cl_nI (by omega), if_pos (by rw [e]; decide), e, nI_1]; rfl
  · rw [e, cl_nI (by omega)]
    have key := lu3 (X9_digest_197 mi ma k0) (fun i => dg (fun i => ma 13 (60 * r + i)) i v) (fun _ => nI r) nI m (k0 (dg (fun i => ma 13 (60 * r + i)) m v) (nI (r + 1))) ?_ ?_ 0 500 (by omega) (by omega)
    · exact key
    · intro n i hi
      rw [X9_digest_197, gd_nI hr (by omega), cl_nI (by omega), e, if_neg (nI_ge hi (by omega)), show (60 : Int32) * nI r + nI i = nI (60 * r + i) from mixN 60 r i, gd_nI (by omega) (by omega), lt_, cl_nI (by omega), nI_1, dg]
    · intro n
      rw [X9_digest_197, gd_nI hr (by omega), cl_nI (by omega), e, if_pos (nI_le (Nat.le_refl _) (by omega)), nI_1]
theorem dgT (R : RT sN sF ma) : ∀ q r v f1 f2, r + q = 4 → q < f1 → q < f2 → ∃ z, X8_digest_154 vS vF sN sF f1 v (nI r) = some z ∧ X9_digest_175 mi ma f2 v (nI r) = some z := by
  intro q
  induction q with
  | zero =>
    intro r v f1 f2 h1 h2 h3
    obtain ⟨f1, rfl⟩ : ∃ z, f1 = z + 1 := ⟨f1 - 1, by omega⟩
    obtain ⟨f2, rfl⟩ : ∃ z, f2 = z + 1 := ⟨f2 - 1, by omega⟩
    have : r = 4 := by omega
    subst this
    exact ⟨v, by rw [X8_digest_154, if_pos (show (4 : Int32) ≤ nI 4 by decide)], by rw [X9_digest_175, if_pos (show (4 : Int32) ≤ nI 4 by decide)]⟩
  | succ q ih =>
    intro r v f1 f2 h1 h2 h3
    obtain ⟨f1, rfl⟩ : ∃ z, f1 = z + 1 := ⟨f1 - 1, by omega⟩
    obtain ⟨f2, rfl⟩ : ∃ z, f2 = z + 1 := ⟨f2 - 1, by omega⟩
    have hr : r < 4 := by omega
    obtain ⟨e1, hs, ef⟩ := R r hr
    have ng : ¬ (4 : Int32) ≤ nI r := (nI_ge hr (by omega) : ¬ nI 4 ≤ nI r)
    rw [X8_digest_154, if_neg ng, gd_nI hr (by omega), cl_nI (by omega), mixC (by rw [sL60]; exact Nat.le_refl _) hs, Option.bind_some, nI_1, X9_digest_175, if_neg ng, gd_nI hr (by omega), lt_, cl_nI (by omega), mixTM hr (by rw [← e1]; exact hs), ← e1]
    have e : dg (sF (6 + r)) (sN (6 + r)).toNatClampNeg (31 * v + (sN (6 + r)).toInt64) = dg (fun i => ma 13 (60 * r + i)) (sN (6 + r)).toNatClampNeg (31 * v + (sN (6 + r)).toInt64) := by
      refine dg_cong _ _ (fun i hi => (ef i ?_).1)
      rcases hs with e | ⟨m, hm, e⟩
      · rw [e] at hi; exact absurd hi (Nat.not_lt_zero _)
      · rw [e, cl_nI (by omega)] at hi; omega
    rw [e]
    exact ih (r + 1) _ f1 f2 (by omega) (by omega) (by omega)
theorem dgR (R : RR sN sF ma) (T : RT sN sF ma) : ∀ q r v f1 f2, r + q = 6 → q < f1 → q < f2 → ∃ z, X8_digest_129 vS vF sN sF f1 v (nI r) = some z ∧ X9_digest_107 mi ma f2 v (nI r) = some z := by
  intro q
  induction q with
  | zero =>
    intro r v f1 f2 h1 h2 h3
    obtain ⟨f1, rfl⟩ : ∃ z, f1 = z + 1 := ⟨f1 - 1, by omega⟩
    obtain ⟨f2, rfl⟩ : ∃ z, f2 = z + 1 := ⟨f2 - 1, by omega⟩
    have : r = 6 := by omega
    subst this
    rw [X8_digest_129, if_pos (show (6 : Int32) ≤ nI 6 by decide), X9_digest_107, if_pos (show (6 : Int32) ≤ nI 6 by decide)]
    exact dgT T 4 0 v 500 500 (by omega) (by omega) (by omega)
  | succ q ih =>
    intro r v f1 f2 h1 h2 h3
    obtain ⟨f1, rfl⟩ : ∃ z, f1 = z + 1 := ⟨f1 - 1, by omega⟩
    obtain ⟨f2, rfl⟩ : ∃ z, f2 = z + 1 := ⟨f2 - 1, by omega⟩
    have hr : r < 6 := by omega
    obtain ⟨e1, hs, ef⟩ := R r hr
    have ng : ¬ (6 : Int32) ≤ nI r := (nI_ge hr (by omega) : ¬ nI 6 ≤ nI r)
    rw [X8_digest_129, if_neg ng, gd_nI hr (by omega), cl_nI (by omega), mixC (by rw [sL40 hr]; exact Nat.le_refl _) hs, Option.bind_some, nI_1, X9_digest_107, if_neg ng, gd_nI hr (by omega), lt_, cl_nI (by omega), mixRM hr (by rw [← e1]; exact hs), ← e1]
    have e : dg (sF r) (sN r).toNatClampNeg (31 * v + (sN r).toInt64) = dg (fun i => ma 11 (40 * r + i)) (sN r).toNatClampNeg (31 * v + (sN r).toInt64) := by
      refine dg_cong _ _ (fun i hi => ef i ?_)
      rcases hs with e | ⟨m, hm, e⟩
      · rw [e] at hi; exact absurd hi (Nat.not_lt_zero _)
      · rw [e, cl_nI (by omega)] at hi; omega
    rw [e]
    exact ih (r + 1) _ f1 f2 (by omega) (by omega) (by omega)
theorem dgK (R : Rel gi gl ga vS vF sN sF mi ml ma) : ∀ q r v f1 f2, r + q = 3 → q < f1 → q < f2 → ∃ z, X8_digest_83 vS vF sN sF f1 v (nI r) = some z ∧ X9_digest_80 mi ma f2 v (nI r) = some z := by
  have rk := kept_all R.2.2.2
  intro q
  induction q with
  | zero =>
    intro r v f1 f2 h1 h2 h3
    obtain ⟨f1, rfl⟩ : ∃ z, f1 = z + 1 := ⟨f1 - 1, by omega⟩
    obtain ⟨f2, rfl⟩ : ∃ z, f2 = z + 1 := ⟨f2 - 1, by omega⟩
    have : r = 3 := by omega
    subst this
    rw [X8_digest_83, if_pos (show (3 : Int32) ≤ nI 3 by decide), X9_digest_80, if_pos (show (3 : Int32) ≤ nI 3 by decide)]
    exact dgR R.1 R.2.1 6 0 v 500 500 (by omega) (by omega) (by omega)
  | succ q ih =>
    intro r v f1 f2 h1 h2 h3
    obtain ⟨f1, rfl⟩ : ∃ z, f1 = z + 1 := ⟨f1 - 1, by omega⟩
    obtain ⟨f2, rfl⟩ : ∃ z, f2 = z + 1 := ⟨f2 - 1, by omega⟩
    have hr : r < 3 := by omega
    have ng : ¬ (3 : Int32) ≤ nI r := (nI_ge hr (by omega) : ¬ nI 3 ≤ nI r)
    have e := (rk r hr).2
    rw [X8_digest_83, if_neg ng, gd_nI hr (by omega), gd_nI hr (by omega), cl_nI (by omega), nI_1, lt_, X9_digest_80, if_neg ng, gd_nI hr (by omega), lt_, cl_nI (by omega), nI_1, ← e]
    by_cases z : vS (1 + r) 0 = 0
    · rw [if_pos z, if_pos z]; exact ih (r + 1) _ f1 f2 (by omega) (by omega) (by omega)
    · rw [if_neg z, if_neg z]; exact ih (r + 1) _ f1 f2 (by omega) (by omega) (by omega)
theorem dgFC (c : CV P k t l h a d vS vF) (o : OKV P k t h a D) {x : Nat} (hx : x < P) (v : Int64) (k0 : Int64 → Int32 → Option Int64) : X8_digest_47 vS vF sN sF k0 500 v (nI x) 0 = k0 (dg (FA k t l h a d D x) 6 v) (nI (x + 1)) := by
  have key := lu3 (X8_digest_47 vS vF sN sF k0) (fun i => dg (FA k t l h a d D x) i v) (fun _ => nI x) nI 6 (k0 (dg (FA k t l h a d D x) 6 v) (nI (x + 1))) ?_ ?_ 0 500 (by omega) (by omega)
  · exact key
  · intro n i hi
    rw [X8_digest_47, if_neg (show ¬ (6 : Int32) ≤ nI i from (nI_ge hi (by omega) : ¬ nI 6 ≤ nI i)), factC c o hx hi, Option.bind_some, nI_1, dg]
  · intro n
    rw [X8_digest_47, if_pos (show (6 : Int32) ≤ nI 6 by decide), nI_1]
theorem dgFM (c : MV P k t l h a d mi ma) (o : OKV P k t h a D) {x : Nat} (hx : x < P) (v : Int64) (k0 : Int64 → Int32 → Option Int64) : X9_digest_44 mi ma k0 500 v (nI x) 0 = k0 (dg (FA k t l h a d D x) 6 v) (nI (x + 1)) := by
  have key := lu3 (X9_digest_44 mi ma k0) (fun i => dg (FA k t l h a d D x) i v) (fun _ => nI x) nI 6 (k0 (dg (FA k t l h a d D x) 6 v) (nI (x + 1))) ?_ ?_ 0 500 (by omega) (by omega)
  · exact key
  · intro n i hi
    rw [X9_digest_44, if_neg (show ¬ (6 : Int32) ≤ nI i from (nI_ge hi (by omega) : ¬ nI 6 ≤ nI i)), personOfM c o hx hi, Option.bind_some, nI_1, dg]
  · intro n
    rw [X9_digest_44, if_pos (show (6 : Int32) ≤ nI 6 by decide), nI_1]
theorem dgP (R : Rel gi gl ga vS vF sN sF mi ml ma) (c : CV P k t l h a d vS vF) (m : MV P k t l h a d mi ma) (o : OKV P k t h a D) : ∀ q r v f1 f2, r + q = P → q < f1 → q < f2 → ∃ z, X8_digest_33 vS vF sN sF f1 v (nI r) = some z ∧ X9_digest_33 mi ma f2 v (nI r) = some z := by
  have h7 := o.1
  intro q
  induction q with
  | zero =>
    intro r v f1 f2 h1 h2 h3
    obtain ⟨f1, rfl⟩ : ∃ z, f1 = z + 1 := ⟨f1 - 1, by omega⟩
    obtain ⟨f2, rfl⟩ : ∃ z, f2 = z + 1 := ⟨f2 - 1, by omega⟩
    have : r = P := by omega
    subst this
    rw [X8_digest_33, c.1, if_pos (nI_le (Nat.le_refl _) (by omega)), X9_digest_33, m.1, if_pos (nI_le (Nat.le_refl _) (by omega))]
    exact dgK R 3 0 v 500 500 (by omega) (by omega) (by omega)
  | succ q ih =>
    intro r v f1 f2 h1 h2 h3
    obtain ⟨f1, rfl⟩ : ∃ z, f1 = z + 1 := ⟨f1 - 1, by omega⟩
    obtain ⟨f2, rfl⟩ : ∃ z, f2 = z + 1 := ⟨f2 - 1, by omega⟩
    have hr : r < P := by omega
    rw [X8_digest_33, c.1, if_neg (nI_ge hr (by omega)), dgFC c o hr, X9_digest_33, m.1, if_neg (nI_ge hr (by omega)), dgFM m o hr]
    exact ih (r + 1) _ f1 f2 (by omega) (by omega) (by omega)
theorem dgN (R : Rel gi gl ga vS vF sN sF mi ml ma) : ∀ q r v f1 f2, r + q = 9 → q < f1 → q < f2 → ∃ z, X8_digest_6 vS vF sN sF f1 v (nI r) = some z ∧ X9_digest_6 mi ma f2 v (nI r) = some z := by
  intro q
  induction q with
  | zero =>
    intro r v f1 f2 h1 h2 h3
    obtain ⟨f1, rfl⟩ : ∃ z, f1 = z + 1 := ⟨f1 - 1, by omega⟩
    obtain ⟨f2, rfl⟩ : ∃ z, f2 = z + 1 := ⟨f2 - 1, by omega⟩
    have : r = 9 := by omega
    subst this
    rw [X8_digest_6, if_pos (show (9 : Int32) ≤ nI 9 by decide), X9_digest_6, if_pos (show (9 : Int32) ≤ nI 9 by decide)]
    obtain ⟨P, k, t, l, h, a, d, D, c, m, o, -⟩ := R.2.2.2.view
    have h7 := o.1
    exact dgP R c m o P 0 v 500 500 (by omega) (by omega) (by omega)
  | succ q ih =>
    intro r v f1 f2 h1 h2 h3
    obtain ⟨f1, rfl⟩ : ∃ z, f1 = z + 1 := ⟨f1 - 1, by omega⟩
    obtain ⟨f2, rfl⟩ : ∃ z, f2 = z + 1 := ⟨f2 - 1, by omega⟩
    have hr : r < 9 := by omega
    have ng : ¬ (9 : Int32) ≤ nI r := (nI_ge hr (by omega) : ¬ nI 9 ≤ nI r)
    obtain ⟨z, z1, z2⟩ := count_eq R hr
    rw [X8_digest_6, if_neg ng, z1, Option.bind_some, nI_1, X9_digest_6, if_neg ng, z2, Option.bind_some, nI_1]
    exact ih (r + 1) _ f1 f2 (by omega) (by omega) (by omega)
theorem st_digest (R : Rel gi gl ga vS vF sN sF mi ml ma) : ∃ r, X8_digest vS vF sN sF = some r ∧ X9_digest mi ma = some r := by
  rw [X8_digest, X9_digest]
  exact dgN R 9 0 17 500 500 (by omega) (by omega) (by omega)
end
