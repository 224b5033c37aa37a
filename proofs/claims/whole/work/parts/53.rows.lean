section
variable {gi : Nat → Int32} {gl : Nat → Int64} {ga : Nat → Nat → Int32} {vS : Nat → Nat → Int32} {vF : Nat → Nat → Nat → Int32} {sN : Nat → Int32} {sF : Nat → Nat → Int32} {mi : Nat → Int32} {ml : Nat → Int64} {ma : Nat → Nat → Int32}
theorem hasRunC {j m : Nat} (hm : m ≤ 60) (e : sN j = nI m) {n : Nat} (hn : n < 2 ^ 31) (x : Int32) : X6_hasRun sN j x (nI n) = some (if 0 ≤ x.toInt ∧ x.toInt + n ≤ m then 1 else 0) := by
  rw [X6_hasRun, e, if_neg (nI_pos hn)]
  by_cases h0 : x < 0
  · have := Int32.lt_iff_toInt_lt.mp h0
    have z : (0 : Int32).toInt = 0 := rfl
    rw [if_pos h0, if_neg (by omega)]
  · rw [if_neg h0]
    obtain ⟨i, hi, rfl⟩ := nI_of h0
    rw [toI_nI hi]
    by_cases h1 : m < i
    · rw [if_pos (nI_lt h1 hi), if_neg (by omega)]
    · rw [if_neg (nI_nlt (by omega) (by omega)), pk_sub (by omega)]
      by_cases h2 : m - i < n
      · rw [if_pos (nI_lt h2 hn), if_neg (by omega)]
      · rw [if_neg (nI_nlt (by omega) (by omega)), if_pos (by omega)]
theorem copyLoop1 {r i n : Nat} (v3 v4 : Int32) (h : 40 * r + i + n ≤ 240) (hn : n ≤ 40) (mi : Nat → Int32) (ma : Nat → Nat → Int32) : X9_copy_96 500 (nI r) (nI i) v3 v4 (nI n) 0 mi ma = X9_copy_133 500 v3 v4 (nI n) 0 mi (va_up ma 24 (fb_put (ma 24) (fun q => ma 11 (40 * r + i + q)) 0 n)) := by
  have key := lu2 (fun m (x : Int32) (s : Nat → Nat → Int32) => X9_copy_96 m (nI r) (nI i) v3 v4 (nI n) x mi s) nI (fun q => va_up ma 24 (fb_put (ma 24) (fun q => ma 11 (40 * r + i + q)) 0 q)) n (X9_copy_133 500 v3 v4 (nI n) 0 mi (va_up ma 24 (fb_put (ma 24) (fun q => ma 11 (40 * r + i + q)) 0 n))) ?_ ?_ 0 500 (by omega) (by omega)
  · have e : va_up ma 24 (fb_put (ma 24) (fun q => ma 11 (40 * r + i + q)) 0 0) = ma := by
      rw [fb_put_0]; funext i; unfold va_up; split
      · rename_i h; rw [h]
      · rfl
    rw [e] at key; exact key
  · intro m q hq
    show X9_copy_96 (m + 1) _ _ _ _ _ (nI q) _ _ = X9_copy_96 m _ _ _ _ _ (nI (q + 1)) _ _
    rw [X9_copy_96, if_neg (nI_ge hq (by omega)), show (40 : Int32) = nI 40 from rfl, pk_mul, nI_add, nI_add, gd_nI (by omega) (by omega), gd_nI (by omega) (by omega), lt_, cl_nI (by omega), cl_nI (by omega), nI_1, up_at, up_up, up_ne ma _ (show 11 ≠ 24 by omega)]
    have e := fb_put_succ (ma 24) (fun q => ma 11 (40 * r + i + q)) 0 q
    rw [Nat.zero_add] at e
    rw [e]
  · intro m
    show X9_copy_96 (m + 1) _ _ _ _ _ (nI n) _ _ = _
    rw [X9_copy_96, if_pos (nI_le (Nat.le_refl _) (by omega))]
theorem copyLoop2 {r i n : Nat} (h : 40 * r + i + n ≤ 240) (hn : n ≤ 40) (mi : Nat → Int32) (ma : Nat → Nat → Int32) : X9_copy_133 500 (nI r) (nI i) (nI n) 0 mi ma = some (1, mi, va_up ma 11 (fb_put (ma 11) (fun q => ma 24 q) (40 * r + i) n)) := by
  have key := lu2 (fun m (x : Int32) (s : Nat → Nat → Int32) => X9_copy_133 m (nI r) (nI i) (nI n) x mi s) nI (fun q => va_up ma 11 (fb_put (ma 11) (fun q => ma 24 q) (40 * r + i) q)) n (some (1, mi, va_up ma 11 (fb_put (ma 11) (fun q => ma 24 q) (40 * r + i) n))) ?_ ?_ 0 500 (by omega) (by omega)
  · have e : va_up ma 11 (fb_put (ma 11) (fun q => ma 24 q) (40 * r + i) 0) = ma := by
      rw [fb_put_0]; funext i; unfold va_up; split
      · rename_i h; rw [h]
      · rfl
    rw [e] at key; exact key
  · intro m q hq
    show X9_copy_133 (m + 1) _ _ _ (nI q) _ _ = X9_copy_133 m _ _ _ (nI (q + 1)) _ _
    rw [X9_copy_133, if_neg (nI_ge hq (by omega)), show (40 : Int32) = nI 40 from rfl, pk_mul, nI_add, nI_add, gd_nI (by omega) (by omega), gd_nI (by omega) (by omega), lt_, cl_nI (by omega), cl_nI (by omega), nI_1, up_at, up_up, up_ne ma _ (show 24 ≠ 11 by omega)]
    have e := fb_put_succ (ma 11) (fun q => ma 24 q) (40 * r + i) q
    rw [e]
  · intro m
    show X9_copy_133 (m + 1) _ _ _ (nI n) _ _ = _
    rw [X9_copy_133, if_pos (nI_le (Nat.le_refl _) (by omega))]
theorem st_copy (R : Rel gi gl ga vS vF sN sF mi ml ma) (a b c d e : Int32) : ∃ r gi' ga' sF' mi' ma', X8_copy sN a b c d e gi ga sF = some (r, gi', ga', sF') ∧ X9_copy a b c d e mi ma = some (r, mi', ma') ∧ Rel gi' gl ga' vS vF sN sF' mi' ml ma' := by
  rcases row_cases a with ⟨r, hr, rfl, h1, h2⟩ | ⟨h1, h2⟩
  · rcases row_cases c with ⟨q, hq, rfl, g1, g2⟩ | ⟨g1, g2⟩
    · by_cases he : 0 ≤ e
      · obtain ⟨n, hn, rfl⟩ := nI_of (x := e) (by
          intro w
          have a1 := Int32.le_iff_toInt_le.mp he
          have a2 := Int32.lt_iff_toInt_lt.mp w
          omega)
        obtain ⟨e1, hs1, ef1⟩ := R.1 r hr
        obtain ⟨e2, hs2, ef2⟩ := R.1 q hq
        rcases sz_cases hs1 (by omega) with ⟨em1, hneg1⟩ | ⟨m1, hm1, em1, hpos1⟩
        · refine ⟨-3, _, _, _, _, _, ?_, ?_, Rel_found (f := 1) R (by omega)⟩
          · rw [X8_copy, h1, Option.bind_some, if_neg one_ne, g1, Option.bind_some, if_neg one_ne, if_pos he, gd_nI (by omega) (by omega), cl_nI (by omega), isMissingC, if_neg hneg1, Option.bind_some, if_neg one_ne, show (1 : Int32) = nI 1 from rfl, foundC (by omega) (by omega)]; rfl
          · rw [X9_copy, h2, Option.bind_some, if_neg one_ne, g2, Option.bind_some, if_neg one_ne, if_pos he, gd_nI (by omega) (by omega), cl_nI (by omega), ← e1, if_pos (by rw [em1]; decide), show (1 : Int32) = nI 1 from rfl, findsM (by omega)]; rfl
        · have n1 : ¬ sN r < 0 := by rw [em1]; exact nI_pos (by omega)
          rcases sz_cases hs2 (by omega) with ⟨em2, hneg2⟩ | ⟨m2, hm2, em2, hpos2⟩
          · refine ⟨-3, _, _, _, _, _, ?_, ?_, Rel_found (f := 1) R (by omega)⟩
            · rw [X8_copy, h1, Option.bind_some, if_neg one_ne, g1, Option.bind_some, if_neg one_ne, if_pos he, gd_nI (by omega) (by omega), cl_nI (by omega), isMissingC, if_pos hpos1, Option.bind_some, if_pos rfl, gd_nI (by omega) (by omega), cl_nI (by omega), isMissingC, if_neg hneg2, Option.bind_some, if_neg one_ne, show (1 : Int32) = nI 1 from rfl, foundC (by omega) (by omega)]; rfl
            · rw [X9_copy, h2, Option.bind_some, if_neg one_ne, g2, Option.bind_some, if_neg one_ne, if_pos he, gd_nI (by omega) (by omega), cl_nI (by omega), ← e1, if_neg n1, gd_nI (by omega) (by omega), cl_nI (by omega), ← e2, if_neg hneg2, show (1 : Int32) = nI 1 from rfl, findsM (by omega)]; rfl
          · by_cases hA : (0 ≤ b.toInt ∧ b.toInt + n ≤ m1) ∧ (0 ≤ d.toInt ∧ d.toInt + n ≤ m2)
            · obtain ⟨i, hi, rfl⟩ := toI_ex (x := b) (N := 41) (by omega) (by omega)
              obtain ⟨j, hj, rfl⟩ := toI_ex (x := d) (N := 41) (by omega) (by omega)
              have hA' := hA
              rw [toI_nI (by omega), toI_nI (by omega)] at hA'
              refine ⟨1, gi, ga, va_up sF q (va_cpy (sF r) (sF q) i j n), mi, va_up (va_up ma 24 (fb_put (ma 24) (fun z => ma 11 (40 * r + i + z)) 0 n)) 11 (fb_put (ma 11) (fun z => fb_put (ma 24) (fun z => ma 11 (40 * r + i + z)) 0 n z) (40 * q + j) n), ?_, ?_, ?_, ?_, R.2.2⟩
              · rw [X8_copy, h1, Option.bind_some, if_neg one_ne, g1, Option.bind_some, if_neg one_ne, if_pos he, gd_nI (by omega) (by omega), cl_nI (by omega), isMissingC, if_pos hpos1, Option.bind_some, if_pos rfl, gd_nI (by omega) (by omega), cl_nI (by omega), isMissingC, if_pos hpos2, Option.bind_some, if_pos rfl, gd_nI (by omega) (by omega), hasRunC (by omega) em1 hn, if_pos hA.1, Option.bind_some, if_neg one_ne, gd_nI (by omega) (by omega), hasRunC (by omega) em2 hn, if_pos hA.2, Option.bind_some, if_neg one_ne, gd_nI (by omega) (by omega), gd_nI (by omega) (by omega), sL40 hr, sL40 hq, gd_t, lt_, cl_nI (by omega), cl_nI (by omega), cl_nI (by omega)]
                refine decide_eq_true ?_
                rw [cl_nI (by omega), cl_nI (by omega), cl_nI (by omega)]
                exact ⟨nI_pos (by omega), nI_pos (by omega), nI_pos (by omega), by omega, by omega⟩
              · have k1 : ¬ (nI m1 - nI n) < nI i := by rw [pk_sub (by omega)]; exact nI_nlt (by omega) (by omega)
                have k2 : nI j ≤ (nI m2 - nI n) := by rw [pk_sub (by omega)]; exact nI_le (by omega) (by omega)
                rw [X9_copy, h2, Option.bind_some, if_neg one_ne, g2, Option.bind_some, if_neg one_ne, if_pos he, gd_nI (by omega) (by omega), cl_nI (by omega), ← e1, if_neg n1, gd_nI (by omega) (by omega), cl_nI (by omega), ← e2, if_pos hpos2, if_neg (nI_pos (by omega)), if_neg (nI_pos (by omega)), gd_nI (by omega) (by omega), em1, if_neg k1, gd_nI (by omega) (by omega), em2, if_pos k2, copyLoop1 _ _ (by omega) (by omega), copyLoop2 (by omega) (by omega)]
                rfl
              · intro s hs
                by_cases w : s = q
                · subst w
                  rw [up_at]
                  refine ⟨e2, by rw [em2]; exact Or.inr ⟨m2, hm2, rfl⟩, fun z hz => ?_⟩
                  show va_cpy (sF r) (sF s) i j n z = fb_put (ma 11) (fun z => fb_put (ma 24) (fun z => ma 11 (40 * r + i + z)) 0 n z) (40 * s + j) n (40 * s + z)
                  by_cases in_ : j ≤ z ∧ z < j + n
                  · rw [pk_cpy_in in_.1 in_.2, fb_put_in (by omega) (by omega), fb_put_in (by omega) (by omega), ef1 _ (by omega)]
                    congr 1; omega
                  · rw [pk_cpy_out (by omega), fb_put_out (by omega), ef2 z hz]
                · obtain ⟨a1, b1, c1⟩ := R.1 s hs
                  rw [up_ne sF _ w]
                  refine ⟨a1, b1, fun z hz => ?_⟩
                  show sF s z = fb_put (ma 11) (fun z => fb_put (ma 24) (fun z => ma 11 (40 * r + i + z)) 0 n z) (40 * q + j) n (40 * s + z)
                  rw [fb_put_out (by omega)]; exact c1 z hz
              · intro s hs
                rw [up_ne sF _ (show 6 + s ≠ q by omega)]
                exact R.2.1 s hs
            · refine ⟨-3, _, _, _, _, _, ?_, ?_, Rel_found (f := 2) R (by omega)⟩
              · rw [X8_copy, h1, Option.bind_some, if_neg one_ne, g1, Option.bind_some, if_neg one_ne, if_pos he, gd_nI (by omega) (by omega), cl_nI (by omega), isMissingC, if_pos hpos1, Option.bind_some, if_pos rfl, gd_nI (by omega) (by omega), cl_nI (by omega), isMissingC, if_pos hpos2, Option.bind_some, if_pos rfl, gd_nI (by omega) (by omega), hasRunC (by omega) em1 hn, Option.bind_some, show (2 : Int32) = nI 2 from rfl, foundC (by omega) (by omega)]
                by_cases hB : 0 ≤ b.toInt ∧ b.toInt + n ≤ m1
                · rw [if_pos hB, if_neg one_ne, gd_nI (by omega) (by omega), hasRunC (by omega) em2 hn, if_neg (fun w => hA ⟨hB, w⟩), Option.bind_some, if_pos rfl]; rfl
                · rw [if_neg hB, if_pos rfl]; rfl
              · have h87 : X9_copy_87 mi ma = some (-3, va_up mi 4 (nI 2), va_up ma 9 (upd (ma 9) 2 (ma 9 2 + 1))) := by
                  rw [X9_copy_87, show (2 : Int32) = nI 2 from rfl, findsM (by omega)]; rfl
                rw [X9_copy, h2, Option.bind_some, if_neg one_ne, g2, Option.bind_some, if_neg one_ne, if_pos he, gd_nI (by omega) (by omega), cl_nI (by omega), ← e1, if_neg n1, gd_nI (by omega) (by omega), cl_nI (by omega), ← e2, if_pos hpos2, gd_nI (by omega) (by omega), gd_nI (by omega) (by omega), em1, em2, h87]
                by_cases b0 : b < 0
                · rw [if_pos b0]
                · rw [if_neg b0]
                  by_cases d0 : d < 0
                  · rw [if_pos d0]
                  · rw [if_neg d0]
                    obtain ⟨i, hi, rfl⟩ := nI_of b0
                    obtain ⟨j, hj, rfl⟩ := nI_of d0
                    rw [toI_nI hi, toI_nI hj] at hA
                    have s1 : (nI m1 - nI n).toInt = (m1 : Int) - n := by
                      rw [fb_subI] <;> rw [toI_nI (by omega), toI_nI (by omega)] <;> omega
                    have s2 : (nI m2 - nI n).toInt = (m2 : Int) - n := by
                      rw [fb_subI] <;> rw [toI_nI (by omega), toI_nI (by omega)] <;> omega
                    by_cases w1 : (nI m1 - nI n) < nI i
                    · rw [if_pos w1]
                    · rw [if_neg w1, if_neg]
                      intro w2
                      rw [Int32.lt_iff_toInt_lt, s1, toI_nI hi] at w1
                      rw [Int32.le_iff_toInt_le, s2, toI_nI hj] at w2
                      apply hA; omega
      · refine ⟨-3, _, _, _, _, _, ?_, ?_, Rel_found (f := 5) R (by omega)⟩
        · rw [X8_copy, h1, Option.bind_some, if_neg one_ne, g1, Option.bind_some, if_neg one_ne, if_neg he, show (5 : Int32) = nI 5 from rfl, foundC (by omega) (by omega)]; rfl
        · rw [X9_copy, h2, Option.bind_some, if_neg one_ne, g2, Option.bind_some, if_neg one_ne, if_neg he, show (5 : Int32) = nI 5 from rfl, findsM (by omega)]; rfl
    · refine ⟨-1, gi, ga, sF, mi, ma, ?_, ?_, R⟩
      · rw [X8_copy, h1, Option.bind_some, if_neg one_ne, g1, Option.bind_some, if_pos rfl]
      · rw [X9_copy, h2, Option.bind_some, if_neg one_ne, g2, Option.bind_some, if_pos rfl]
  · refine ⟨-1, gi, ga, sF, mi, ma, ?_, ?_, R⟩
    · rw [X8_copy, h1, Option.bind_some, if_pos rfl]
    · rw [X9_copy, h2, Option.bind_some, if_pos rfl]
end
