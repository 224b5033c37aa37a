section
variable {gi : Nat → Int32} {gl : Nat → Int64} {ga : Nat → Nat → Int32} {vS : Nat → Nat → Int32} {vF : Nat → Nat → Nat → Int32} {sN : Nat → Int32} {sF : Nat → Nat → Int32} {mi : Nat → Int32} {ml : Nat → Int64} {ma : Nat → Nat → Int32}
/-- a ROW anew, both sides -/
theorem RR_set {ma' : Nat → Nat → Int32} {f : Nat → Int32} {v : Int32} {r : Nat} (R : RR sN sF ma) (hr : r < 6) (hv : sz 40 v) (e10 : ma' 10 = upd (ma 10) r v) (hf : ∀ i, i < 40 → f i = ma' 11 (40 * r + i)) (ho : ∀ q, (q < 40 * r ∨ 40 * r + 40 ≤ q) → ma' 11 q = ma 11 q) : RR (va_up sN r v) (va_up sF r f) ma' := by
  intro s hs
  by_cases e : s = r
  · subst e
    rw [up_at, up_at, e10]
    exact ⟨by simp [upd], hv, hf⟩
  · obtain ⟨a, b, c⟩ := R s hs
    rw [up_ne _ _ e, up_ne _ _ e, e10]
    refine ⟨by simp [upd, e, a], b, fun i hi => ?_⟩
    rw [ho _ (by omega)]
    exact c i hi
theorem RT_row {ma' : Nat → Nat → Int32} {f : Nat → Int32} {v : Int32} {r : Nat} (R : RT sN sF ma) (hr : r < 6) (e12 : ma' 12 = ma 12) (e13 : ma' 13 = ma 13) : RT (va_up sN r v) (va_up sF r f) ma' := by
  intro s hs
  rw [up_ne _ _ (by omega), up_ne _ _ (by omega), e12, e13]
  exact R s hs
theorem rowLoopM {r : Nat} (hr : r < 6) (v : Int32) (mi : Nat → Int32) (ma : Nat → Nat → Int32) : X9_row_34 500 (nI r) v 0 mi ma = some (v, mi, va_up ma 11 (fb_put (ma 11) (fun _ => 0) (40 * r) 40)) := by
  have key := lu5 X9_row_34 (fun _ => nI r) (fun _ => v) nI (fun _ => mi) (fun i => va_up ma 11 (fb_put (ma 11) (fun _ => 0) (40 * r) i)) 40 (some (v, mi, va_up ma 11 (fb_put (ma 11) (fun _ => 0) (40 * r) 40))) ?_ ?_ 0 500 (by omega) (by omega)
  · have e : va_up ma 11 (fb_put (ma 11) (fun _ => 0) (40 * r) 0) = ma := by
      rw [fb_put_0]; funext i; unfold va_up; split
      · rename_i h; rw [h]
      · rfl
    rw [e] at key; exact key
  · intro n i hi
    rw [X9_row_34, show (40 : Int32) = nI 40 from rfl, if_neg (nI_ge hi (by omega)), pk_mul, nI_add, gd_nI (by omega) (by omega), lt_, cl_nI (by omega), nI_1, up_at, up_up]
    have e := fb_put_succ (ma 11) (fun _ => 0) (40 * r) i
    rw [e]
  · intro n
    rw [X9_row_34, show (40 : Int32) = nI 40 from rfl, if_pos (nI_le (Nat.le_refl _) (by omega))]
theorem rowM {r n : Nat} (hr : r < 6) (hn : n ≤ 40) (mi : Nat → Int32) (ma : Nat → Nat → Int32) : X9_row (nI r) (nI n) mi ma = some (nI n, mi, va_up (va_up ma 10 (upd (ma 10) r (nI n))) 11 (fb_put (ma 11) (fun _ => 0) (40 * r) 40)) := by
  rw [X9_row, isRowM, if_pos (by rw [toI_nI (by omega)]; omega), Option.bind_some, if_neg one_ne, show (40 : Int32) = nI 40 from rfl, if_pos (nI_le hn (by omega)), if_pos (nI_pos' (by omega)), gd_nI (by omega) (by omega), lt_, cl_nI (by omega), rowLoopM hr]
  rfl
theorem Rel_row {r n : Nat} (hr : r < 6) (hn : n ≤ 40) (R : Rel gi gl ga vS vF sN sF mi ml ma) : Rel gi gl ga vS vF (va_up sN r (nI n)) (va_up sF r (fb_put (sF r) (fun _ => 0) 0 40)) mi ml (va_up (va_up ma 10 (upd (ma 10) r (nI n))) 11 (fb_put (ma 11) (fun _ => 0) (40 * r) 40)) := by
  refine ⟨RR_set R.1 hr (Or.inr ⟨n, hn, rfl⟩) rfl (fun i hi => ?_) (fun q hq => ?_), RT_row R.2.1 hr rfl rfl, R.2.2.1, R.2.2.2⟩
  · show fb_put (sF r) (fun _ => 0) 0 40 i = fb_put (ma 11) (fun _ => 0) (40 * r) 40 (40 * r + i)
    rw [fb_put_in (by omega) (by omega), fb_put_in (by omega) (by omega)]
  · show fb_put (ma 11) (fun _ => 0) (40 * r) 40 q = ma 11 q
    rw [fb_put_out hq]
theorem st_row (R : Rel gi gl ga vS vF sN sF mi ml ma) (a b : Int32) : ∃ r gi' ga' sN' sF' mi' ma', X8_row a b gi ga sN sF = some (r, gi', ga', sN', sF') ∧ X9_row a b mi ma = some (r, mi', ma') ∧ Rel gi' gl ga' vS vF sN' sF' mi' ml ma' := by
  rcases row_cases a with ⟨r, hr, rfl, h1, h2⟩ | ⟨h1, h2⟩
  · by_cases hb : b ≤ 40
    · by_cases hb0 : 0 ≤ b
      · obtain ⟨n, hn, rfl⟩ : ∃ n, n < 41 ∧ b = nI n := by
          refine toI_ex (by omega) ⟨?_, ?_⟩
          · have := Int32.le_iff_toInt_le.mp hb0; exact this
          · have := Int32.le_iff_toInt_le.mp hb
            have z : (40 : Int32).toInt = 40 := rfl
            omega
        refine ⟨nI n, gi, ga, _, _, mi, _, ?_, rowM hr (by omega) mi ma, Rel_row hr (by omega) R⟩
        rw [X8_row, h1, Option.bind_some, if_neg one_ne, if_pos hb, if_pos hb0, gd_nI (by omega) (by omega), cl_nI (by omega), layOutC (by simp [sL, hr]; omega)]
        simp [bd2, sL, hr]
      · refine ⟨-3, _, _, _, _, _, _, ?_, ?_, Rel_found (f := 5) R (by omega)⟩
        · rw [X8_row, h1, Option.bind_some, if_neg one_ne, if_pos hb, if_neg hb0, show (5 : Int32) = nI 5 from rfl, foundC (by omega) (by omega)]; rfl
        · rw [X9_row, h2, Option.bind_some, if_neg one_ne, if_pos hb, if_neg hb0, show (5 : Int32) = nI 5 from rfl, findsM (by omega)]; rfl
    · refine ⟨-1, gi, ga, sN, sF, mi, ma, ?_, ?_, R⟩
      · rw [X8_row, h1, Option.bind_some, if_neg one_ne, if_neg hb]
      · rw [X9_row, h2, Option.bind_some, if_neg one_ne, if_neg hb]
  · refine ⟨-1, gi, ga, sN, sF, mi, ma, ?_, ?_, R⟩
    · rw [X8_row, h1, Option.bind_some, if_pos rfl]
    · rw [X9_row, h2, Option.bind_some, if_pos rfl]
/-- a size: missing, or so many -/
theorem sz_cases {N : Nat} {v : Int32} (h : sz N v) (hN : N ≤ 60) : (v = -1 ∧ ¬ 0 ≤ v) ∨ ∃ m, m ≤ N ∧ v = nI m ∧ 0 ≤ v := by
  rcases h with rfl | ⟨m, hm, rfl⟩
  · exact Or.inl ⟨rfl, by decide⟩
  · exact Or.inr ⟨m, hm, rfl, nI_pos' (by omega)⟩
theorem isMissingC {j : Nat} : X6_isMissing sN j = some (if 0 ≤ sN j then 0 else 1) := by rw [X6_isMissing]; split <;> rfl
theorem hasC {j m : Nat} (hm : m ≤ 60) (e : sN j = nI m) (x : Int32) : X6_has sN j x = some (if 0 ≤ x.toInt ∧ x.toInt < m then 1 else 0) := by
  rw [X6_has, e]
  simp only [Int32.lt_iff_toInt_lt, Int32.le_iff_toInt_le, toI_nI (show m < 2 ^ 31 by omega), show (0 : Int32).toInt = 0 from rfl]
  by_cases h : 0 ≤ x.toInt ∧ x.toInt < m
  · rw [if_pos h, if_neg (by omega), if_neg (by omega)]
  · rw [if_neg h]
    split
    · rfl
    · rw [if_pos (by omega)]
theorem inSzM {m : Nat} (hm : m ≤ 60) (x : Int32) : X9_in x.toInt64 0 ((nI m - 1).toInt64) = some (if 0 ≤ x.toInt ∧ x.toInt < m then 1 else 0) := by
  rw [inI x 0 _ 0 (m - 1) rfl (by rw [ti64]; exact toI_m1 (by omega))]
  by_cases h : 0 ≤ x.toInt ∧ x.toInt < m
  · rw [if_pos h, if_pos (by omega)]
  · rw [if_neg h, if_neg (by omega)]
theorem sL40 {r : Nat} (h : r < 6) : sL r = 40 := by simp [sL, h]
theorem sL60 (r : Nat) : sL (6 + r) = 60 := by simp [sL]
theorem st_lay (R : Rel gi gl ga vS vF sN sF mi ml ma) (a b v : Int32) : ∃ r gi' ga' sF' mi' ma', X8_lay sN a b v gi ga sF = some (r, gi', ga', sF') ∧ X9_lay a b v mi ma = some (r, mi', ma') ∧ Rel gi' gl ga' vS vF sN sF' mi' ml ma' := by
  rcases row_cases a with ⟨r, hr, rfl, h1, h2⟩ | ⟨h1, h2⟩
  · obtain ⟨e1, hs, ef⟩ := R.1 r hr
    rcases sz_cases hs (by omega) with ⟨em, hneg⟩ | ⟨m, hm, em, hpos⟩
    · refine ⟨-3, _, _, _, _, _, ?_, ?_, Rel_found (f := 1) R (by omega)⟩
      · rw [X8_lay, h1, Option.bind_some, if_neg one_ne, gd_nI (by omega) (by omega), cl_nI (by omega), isMissingC, if_neg hneg, Option.bind_some, if_neg one_ne, show (1 : Int32) = nI 1 from rfl, foundC (by omega) (by omega)]; rfl
      · rw [X9_lay, h2, Option.bind_some, if_neg one_ne, gd_nI (by omega) (by omega), cl_nI (by omega), ← e1, if_neg hneg, show (1 : Int32) = nI 1 from rfl, findsM (by omega)]; rfl
    · by_cases hb : 0 ≤ b.toInt ∧ b.toInt < m
      · obtain ⟨i, hi, rfl⟩ := toI_ex (by omega) hb
        refine ⟨1, va_up gi 1 (sF r i), ga, va_up sF r (upd (sF r) i v), va_up mi 3 (sF r i), va_up ma 11 (upd (ma 11) (40 * r + i) v), ?_, ?_, ?_⟩
        · rw [X8_lay, h1, Option.bind_some, if_neg one_ne, gd_nI (by omega) (by omega), cl_nI (by omega), isMissingC, if_pos hpos, Option.bind_some, if_pos rfl, gd_nI (by omega) (by omega), hasC (by omega) em, if_pos hb, Option.bind_some, if_neg one_ne, gd_nI (by omega) (by omega), sL40 hr, gd_nI (by omega) (by omega), lt_, gd_nI (by omega) (by omega), gd_nI (by omega) (by omega), lt_, cl_nI (by omega)]
        · rw [X9_lay, h2, Option.bind_some, if_neg one_ne, gd_nI (by omega) (by omega), cl_nI (by omega), ← e1, if_pos hpos, gd_nI (by omega) (by omega), em, inSzM (by omega), if_pos hb, Option.bind_some, if_neg one_ne, show (40 : Int32) = nI 40 from rfl, pk_mul, nI_add, gd_nI (by omega) (by omega), lt_, gd_nI (by omega) (by omega), lt_, cl_nI (by omega), ef i (by omega)]
        · refine ⟨?_, ?_, (Rel_told (v := sF r i) R).2.2.1, R.2.2.2⟩
          · intro s hs
            by_cases e : s = r
            · subst e
              rw [up_at]
              refine ⟨e1, by rw [em]; exact Or.inr ⟨m, hm, rfl⟩, fun q hq => ?_⟩
              show upd (sF s) i v q = upd (ma 11) (40 * s + i) v (40 * s + q)
              unfold upd
              by_cases e2 : q = i
              · simp [e2]
              · rw [if_neg e2, if_neg (by omega), ef q hq]
            · obtain ⟨a1, b1, c1⟩ := R.1 s hs
              rw [up_ne _ _ e]
              refine ⟨a1, b1, fun q hq => ?_⟩
              show sF s q = upd (ma 11) (40 * r + i) v (40 * s + q)
              unfold upd
              rw [if_neg (by omega)]; exact c1 q hq
          · intro s hs
            rw [up_ne sF _ (show 6 + s ≠ r by omega)]
            exact R.2.1 s hs
      · refine ⟨-3, _, _, _, _, _, ?_, ?_, Rel_found (f := 2) R (by omega)⟩
        · rw [X8_lay, h1, Option.bind_some, if_neg one_ne, gd_nI (by omega) (by omega), cl_nI (by omega), isMissingC, if_pos hpos, Option.bind_some, if_pos rfl, gd_nI (by omega) (by omega), hasC (by omega) em, if_neg hb, Option.bind_some, if_pos rfl, show (2 : Int32) = nI 2 from rfl, foundC (by omega) (by omega)]; rfl
        · rw [X9_lay, h2, Option.bind_some, if_neg one_ne, gd_nI (by omega) (by omega), cl_nI (by omega), ← e1, if_pos hpos, gd_nI (by omega) (by omega), em, inSzM (by omega), if_neg hb, Option.bind_some, if_pos rfl, show (2 : Int32) = nI 2 from rfl, findsM (by omega)]; rfl
  · refine ⟨-1, gi, ga, sF, mi, ma, ?_, ?_, R⟩
    · rw [X8_lay, h1, Option.bind_some, if_pos rfl]
    · rw [X9_lay, h2, Option.bind_some, if_pos rfl]
end
