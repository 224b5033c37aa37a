section
variable {gi : Nat → Int32} {gl : Nat → Int64} {ga : Nat → Nat → Int32} {vS : Nat → Nat → Int32} {vF : Nat → Nat → Nat → Int32} {sN : Nat → Int32} {sF : Nat → Nat → Int32} {mi : Nat → Int32} {ml : Nat → Int64} {ma : Nat → Nat → Int32}
theorem st_at (R : Rel gi gl ga vS vF sN sF mi ml ma) (a b : Int32) : ∃ r gi' ga' mi' ma', X8_at sN sF a b gi ga = some (r, gi', ga') ∧ X9_at a b mi ma = some (r, mi', ma') ∧ Rel gi' gl ga' vS vF sN sF mi' ml ma' := by
  rcases row_cases a with ⟨r, hr, rfl, h1, h2⟩ | ⟨h1, h2⟩
  · obtain ⟨e1, hs, ef⟩ := R.1 r hr
    rcases sz_cases hs (by omega) with ⟨em, hneg⟩ | ⟨m, hm, em, hpos⟩
    · refine ⟨-3, _, _, _, _, ?_, ?_, Rel_found (f := 1) R (by omega)⟩
      · rw [X8_at, h1, Option.bind_some, if_neg one_ne, gd_nI (by omega) (by omega), cl_nI (by omega), isMissingC, if_neg hneg, Option.bind_some, if_neg one_ne, show (1 : Int32) = nI 1 from rfl, foundC (by omega) (by omega)]; rfl
      · rw [X9_at, h2, Option.bind_some, if_neg one_ne, gd_nI (by omega) (by omega), cl_nI (by omega), ← e1, if_neg hneg, show (1 : Int32) = nI 1 from rfl, findsM (by omega)]; rfl
    · by_cases hb : 0 ≤ b.toInt ∧ b.toInt < m
      · obtain ⟨i, hi, rfl⟩ := toI_ex (by omega) hb
        refine ⟨1, va_up gi 1 (sF r i), ga, va_up mi 3 (sF r i), ma, ?_, ?_, Rel_told R⟩
        · rw [X8_at, h1, Option.bind_some, if_neg one_ne, gd_nI (by omega) (by omega), cl_nI (by omega), isMissingC, if_pos hpos, Option.bind_some, if_pos rfl, gd_nI (by omega) (by omega), hasC (by omega) em, if_pos hb, Option.bind_some, if_neg one_ne, gd_nI (by omega) (by omega), sL40 hr, gd_nI (by omega) (by omega), lt_, cl_nI (by omega)]
        · rw [X9_at, h2, Option.bind_some, if_neg one_ne, gd_nI (by omega) (by omega), cl_nI (by omega), ← e1, if_pos hpos, gd_nI (by omega) (by omega), em, inSzM (by omega), if_pos hb, Option.bind_some, if_neg one_ne, show (40 : Int32) = nI 40 from rfl, pk_mul, nI_add, gd_nI (by omega) (by omega), lt_, cl_nI (by omega), ef i (by omega)]
      · refine ⟨-3, _, _, _, _, ?_, ?_, Rel_found (f := 2) R (by omega)⟩
        · rw [X8_at, h1, Option.bind_some, if_neg one_ne, gd_nI (by omega) (by omega), cl_nI (by omega), isMissingC, if_pos hpos, Option.bind_some, if_pos rfl, gd_nI (by omega) (by omega), hasC (by omega) em, if_neg hb, Option.bind_some, if_pos rfl, show (2 : Int32) = nI 2 from rfl, foundC (by omega) (by omega)]; rfl
        · rw [X9_at, h2, Option.bind_some, if_neg one_ne, gd_nI (by omega) (by omega), cl_nI (by omega), ← e1, if_pos hpos, gd_nI (by omega) (by omega), em, inSzM (by omega), if_neg hb, Option.bind_some, if_pos rfl, show (2 : Int32) = nI 2 from rfl, findsM (by omega)]; rfl
  · refine ⟨-1, gi, ga, mi, ma, ?_, ?_, R⟩
    · rw [X8_at, h1, Option.bind_some, if_pos rfl]
    · rw [X9_at, h2, Option.bind_some, if_pos rfl]
theorem st_tear (R : Rel gi gl ga vS vF sN sF mi ml ma) (a : Int32) : ∃ r gi' ga' sN' mi' ma', X8_tear a gi ga sN = some (r, gi', ga', sN') ∧ X9_tear a mi ma = some (r, mi', ma') ∧ Rel gi' gl ga' vS vF sN' sF mi' ml ma' := by
  rcases row_cases a with ⟨r, hr, rfl, h1, h2⟩ | ⟨h1, h2⟩
  · obtain ⟨e1, hs, ef⟩ := R.1 r hr
    rcases sz_cases hs (by omega) with ⟨em, hneg⟩ | ⟨m, hm, em, hpos⟩
    · refine ⟨-3, _, _, _, _, _, ?_, ?_, Rel_found (f := 1) R (by omega)⟩
      · rw [X8_tear, h1, Option.bind_some, if_neg one_ne, gd_nI (by omega) (by omega), cl_nI (by omega), isMissingC, if_neg hneg, Option.bind_some, if_neg one_ne, show (1 : Int32) = nI 1 from rfl, foundC (by omega) (by omega)]; rfl
      · rw [X9_tear, h2, Option.bind_some, if_neg one_ne, gd_nI (by omega) (by omega), cl_nI (by omega), ← e1, if_neg hneg, show (1 : Int32) = nI 1 from rfl, findsM (by omega)]; rfl
    · refine ⟨1, gi, ga, va_up sN r (-1), mi, va_up ma 10 (upd (ma 10) r (-1)), ?_, ?_, ?_⟩
      · rw [X8_tear, h1, Option.bind_some, if_neg one_ne, gd_nI (by omega) (by omega), cl_nI (by omega), isMissingC, if_pos hpos, Option.bind_some, if_pos rfl, gd_nI (by omega) (by omega), lt_]
      · rw [X9_tear, h2, Option.bind_some, if_neg one_ne, gd_nI (by omega) (by omega), cl_nI (by omega), ← e1, if_pos hpos, gd_nI (by omega) (by omega), lt_]
      · refine ⟨?_, ?_, R.2.2⟩
        · intro s hs6
          show va_up sN r (-1) s = upd (ma 10) r (-1) s ∧ _
          by_cases e : s = r
          · subst e
            rw [up_at]
            exact ⟨by simp [upd], Or.inl rfl, (R.1 s hs6).2.2⟩
          · rw [up_ne sN _ e]
            exact ⟨by simp [upd, e, (R.1 s hs6).1], (R.1 s hs6).2⟩
        · intro s hs4
          rw [up_ne sN _ (show 6 + s ≠ r by omega)]
          exact R.2.1 s hs4
  · refine ⟨-1, gi, ga, sN, mi, ma, ?_, ?_, R⟩
    · rw [X8_tear, h1, Option.bind_some, if_pos rfl]
    · rw [X9_tear, h2, Option.bind_some, if_pos rfl]
def smL (f : Nat → Int32) : Nat → Int64
  | 0 => 0
  | n + 1 => smL f n + (f n).toInt64
theorem sumC {j m : Nat} (hm : m ≤ 60) (hj : m ≤ sL j) (e : sN j = nI m) : X6_sum sN sF j = some (smL (sF j) m) := by
  have hl := sL_lt j
  rw [X6_sum]
  refine lu2 (X6_sum_4 sN sF j) (fun i => smL (sF j) i) nI m _ ?_ ?_ 0 500 (by omega) (by omega)
  · intro n i hi
    rw [X6_sum_4, e, if_neg (nI_ge hi (by omega)), gd_nI (by omega) (by omega), cl_nI (by omega), nI_1, smL]
  · intro n
    rw [X6_sum_4, e, if_pos (nI_le (Nat.le_refl _) (by omega))]
theorem smL_cong {f g : Nat → Int32} : ∀ n, (∀ i, i < n → f i = g i) → smL f n = smL g n
  | 0, _ => rfl
  | n + 1, h => by rw [smL, smL, smL_cong n (fun i hi => h i (by omega)), h n (by omega)]
theorem n64 {m : Nat} (hm : m ≤ 60) (h0 : m ≠ 0) : ¬ (nI m).toInt64 = 0 := by
  rw [nI_l (by omega)]
  intro q
  have := (lN_eq (a := m) (b := 0) (by omega) (by omega)).mp q
  omega
theorem st_mean (R : Rel gi gl ga vS vF sN sF mi ml ma) (a : Int32) : ∃ r gi' ga' mi' ma', X8_mean sN sF a gi ga = some (r, gi', ga') ∧ X9_mean a mi ma = some (r, mi', ma') ∧ Rel gi' gl ga' vS vF sN sF mi' ml ma' := by
  rcases row_cases a with ⟨r, hr, rfl, h1, h2⟩ | ⟨h1, h2⟩
  · obtain ⟨e1, hs, ef⟩ := R.1 r hr
    rcases sz_cases hs (by omega) with ⟨em, hneg⟩ | ⟨m, hm, em, hpos⟩
    · refine ⟨-3, _, _, _, _, ?_, ?_, Rel_found (f := 1) R (by omega)⟩
      · rw [X8_mean, h1, Option.bind_some, if_neg one_ne, gd_nI (by omega) (by omega), cl_nI (by omega), isMissingC, if_neg hneg, Option.bind_some, if_neg one_ne, show (1 : Int32) = nI 1 from rfl, foundC (by omega) (by omega)]; rfl
      · rw [X9_mean, h2, Option.bind_some, if_neg one_ne, gd_nI (by omega) (by omega), cl_nI (by omega), ← e1, if_neg hneg, show (1 : Int32) = nI 1 from rfl, findsM (by omega)]; rfl
    · by_cases h0 : m = 0
      · have e0 : sN r = 0 := by rw [em, h0]; rfl
        refine ⟨-3, _, _, _, _, ?_, ?_, Rel_found (f := 4) R (by omega)⟩
        · rw [X8_mean, h1, Option.bind_some, if_neg one_ne, gd_nI (by omega) (by omega), cl_nI (by omega), isMissingC, if_pos hpos, Option.bind_some, if_pos rfl, gd_nI (by omega) (by omega), if_pos e0, show (4 : Int32) = nI 4 from rfl, foundC (by omega) (by omega)]; rfl
        · rw [X9_mean, h2, Option.bind_some, if_neg one_ne, gd_nI (by omega) (by omega), cl_nI (by omega), ← e1, if_pos hpos, gd_nI (by omega) (by omega), if_pos e0, show (4 : Int32) = nI 4 from rfl, findsM (by omega)]; rfl
      · have e0 : ¬ sN r = 0 := by rw [em]; exact nI_ne0 (by omega) (by omega)
        refine ⟨1, va_up gi 1 ((smL (sF r) m / (nI m).toInt64).toInt32), ga, va_up mi 3 ((smL (sF r) m / (nI m).toInt64).toInt32), ma, ?_, ?_, Rel_told R⟩
        · rw [X8_mean, h1, Option.bind_some, if_neg one_ne, gd_nI (by omega) (by omega), cl_nI (by omega), isMissingC, if_pos hpos, Option.bind_some, if_pos rfl, gd_nI (by omega) (by omega), if_neg e0, gd_nI (by omega) (by omega), sumC (by omega) (by rw [sL40 hr]; exact hm) em, Option.bind_some, gd_nI (by omega) (by omega), em, gn, if_neg (n64 (by omega) h0), lt_]
        · rw [X9_mean, h2, Option.bind_some, if_neg one_ne, gd_nI (by omega) (by omega), cl_nI (by omega), ← e1, if_pos hpos, gd_nI (by omega) (by omega), if_neg e0]
          refine lu5 X9_mean_44 (fun _ => nI r) (fun i => smL (sF r) i) nI (fun _ => mi) (fun _ => ma) m _ ?_ ?_ 0 500 (by omega) (by omega)
          · intro n i hi
            rw [X9_mean_44, gd_nI (by omega) (by omega), cl_nI (by omega), ← e1, em, if_neg (nI_ge hi (by omega)), show (40 : Int32) = nI 40 from rfl, pk_mul, nI_add, gd_nI (by omega) (by omega), lt_, cl_nI (by omega), nI_1, ← ef i (by omega), smL]
          · intro n
            rw [X9_mean_44, gd_nI (by omega) (by omega), cl_nI (by omega), ← e1, em, if_pos (nI_le (Nat.le_refl _) (by omega)), gd_nI (by omega) (by omega), gn, if_neg (n64 (by omega) h0), lt_]
  · refine ⟨-1, gi, ga, mi, ma, ?_, ?_, R⟩
    · rw [X8_mean, h1, Option.bind_some, if_pos rfl]
    · rw [X9_mean, h2, Option.bind_some, if_pos rfl]
/-- texts -/
theorem textLoopM {r : Nat} (hr : r < 4) (v : Int32) (mi : Nat → Int32) (ma : Nat → Nat → Int32) : X9_text_34 500 (nI r) v 0 mi ma = some (v, mi, va_up ma 13 (fb_put (ma 13) (fun _ => 32) (60 * r) 60)) := by
  have key := lu5 X9_text_34 (fun _ => nI r) (fun _ => v) nI (fun _ => mi) (fun i => va_up ma 13 (fb_put (ma 13) (fun _ => 32) (60 * r) i)) 60 (some (v, mi, va_up ma 13 (fb_put (ma 13) (fun _ => 32) (60 * r) 60))) ?_ ?_ 0 500 (by omega) (by omega)
  · have e : va_up ma 13 (fb_put (ma 13) (fun _ => 32) (60 * r) 0) = ma := by
      rw [fb_put_0]; funext i; unfold va_up; split
      · rename_i h; rw [h]
      · rfl
    rw [e] at key; exact key
  · intro n i hi
    rw [X9_text_34, show (60 : Int32) = nI 60 from rfl, if_neg (nI_ge hi (by omega)), pk_mul, nI_add, gd_nI (by omega) (by omega), lt_, cl_nI (by omega), nI_1, up_at, up_up]
    have e := fb_put_succ (ma 13) (fun _ => 32) (60 * r) i
    rw [e]
  · intro n
    rw [X9_text_34, show (60 : Int32) = nI 60 from rfl, if_pos (nI_le (Nat.le_refl _) (by omega))]
theorem st_text (R : Rel gi gl ga vS vF sN sF mi ml ma) (a b : Int32) : ∃ r gi' ga' sN' sF' mi' ma', X8_text a b gi ga sN sF = some (r, gi', ga', sN', sF') ∧ X9_text a b mi ma = some (r, mi', ma') ∧ Rel gi' gl ga' vS vF sN' sF' mi' ml ma' := by
  rcases text_cases a with ⟨r, hr, rfl, h1, h2⟩ | ⟨h1, h2⟩
  · by_cases hb : b ≤ 60
    · by_cases hb0 : 0 ≤ b
      · obtain ⟨n, hn, rfl⟩ : ∃ n, n < 61 ∧ b = nI n := by
          refine toI_ex (by omega) ⟨?_, ?_⟩
          · have := Int32.le_iff_toInt_le.mp hb0; exact this
          · have := Int32.le_iff_toInt_le.mp hb
            have z : (60 : Int32).toInt = 60 := rfl
            omega
        refine ⟨nI n, gi, ga, va_up sN (6 + r) (nI n), va_up sF (6 + r) (fb_put (sF (6 + r)) (fun _ => 32) 0 60), mi, va_up (va_up ma 12 (upd (ma 12) r (nI n))) 13 (fb_put (ma 13) (fun _ => 32) (60 * r) 60), ?_, ?_, ?_, ?_, R.2.2⟩
        · rw [X8_text, h1, Option.bind_some, if_neg one_ne, if_pos hb, if_pos hb0, gd_nI (by omega) (by omega), cl_nI (by omega), layOutC (by rw [sL60]; omega)]
          simp [bd2, sL60]
        · rw [X9_text, h2, Option.bind_some, if_neg one_ne, if_pos hb, if_pos hb0, gd_nI (by omega) (by omega), cl_nI (by omega), lt_, textLoopM hr]; rfl
        · intro s hs
          rw [up_ne sN _ (show s ≠ 6 + r by omega), up_ne sF _ (show s ≠ 6 + r by omega)]
          exact R.1 s hs
        · intro s hs
          show va_up sN (6 + r) (nI n) (6 + s) = upd (ma 12) r (nI n) s ∧ _
          by_cases e : s = r
          · subst e
            rw [up_at, up_at]
            refine ⟨by simp [upd], Or.inr ⟨n, by omega, rfl⟩, fun i hi => ?_⟩
            rw [fb_put_in (by omega) (by omega)]
            refine ⟨?_, by decide, by decide⟩
            show (32 : Int32) = fb_put (ma 13) (fun _ => 32) (60 * s) 60 (60 * s + i)
            rw [fb_put_in (by omega) (by omega)]
          · obtain ⟨a1, b1, c1⟩ := R.2.1 s hs
            rw [up_ne sN _ (show 6 + s ≠ 6 + r by omega), up_ne sF _ (show 6 + s ≠ 6 + r by omega)]
            refine ⟨by simp [upd, e, a1], b1, fun i hi => ?_⟩
            show sF (6 + s) i = fb_put (ma 13) (fun _ => 32) (60 * r) 60 (60 * s + i) ∧ _
            rw [fb_put_out (by omega)]
            exact c1 i hi
      · refine ⟨-3, _, _, _, _, _, _, ?_, ?_, Rel_found (f := 5) R (by omega)⟩
        · rw [X8_text, h1, Option.bind_some, if_neg one_ne, if_pos hb, if_neg hb0, show (5 : Int32) = nI 5 from rfl, foundC (by omega) (by omega)]; rfl
        · rw [X9_text, h2, Option.bind_some, if_neg one_ne, if_pos hb, if_neg hb0, show (5 : Int32) = nI 5 from rfl, findsM (by omega)]; rfl
    · refine ⟨-1, gi, ga, sN, sF, mi, ma, ?_, ?_, R⟩
      · rw [X8_text, h1, Option.bind_some, if_neg one_ne, if_neg hb]
      · rw [X9_text, h2, Option.bind_some, if_neg one_ne, if_neg hb]
  · refine ⟨-1, gi, ga, sN, sF, mi, ma, ?_, ?_, R⟩
    · rw [X8_text, h1, Option.bind_some, if_pos rfl]
    · rw [X9_text, h2, Option.bind_some, if_pos rfl]
theorem st_put (R : Rel gi gl ga vS vF sN sF mi ml ma) (a b v : Int32) : ∃ r gi' ga' sF' mi' ma', X8_put sN a b v gi ga sF = some (r, gi', ga', sF') ∧ X9_put a b v mi ma = some (r, mi', ma') ∧ Rel gi' gl ga' vS vF sN sF' mi' ml ma' := by
  rcases text_cases a with ⟨r, hr, rfl, h1, h2⟩ | ⟨h1, h2⟩
  · obtain ⟨e1, hs, ef⟩ := R.2.1 r hr
    rcases sz_cases hs (by omega) with ⟨em, hneg⟩ | ⟨m, hm, em, hpos⟩
    · refine ⟨-3, _, _, _, _, _, ?_, ?_, Rel_found (f := 1) R (by omega)⟩
      · rw [X8_put, h1, Option.bind_some, if_neg one_ne, gd_nI (by omega) (by omega), cl_nI (by omega), isMissingC, if_neg hneg, Option.bind_some, if_neg one_ne, show (1 : Int32) = nI 1 from rfl, foundC (by omega) (by omega)]; rfl
      · rw [X9_put, h2, Option.bind_some, if_neg one_ne, gd_nI (by omega) (by omega), cl_nI (by omega), ← e1, if_neg hneg, show (1 : Int32) = nI 1 from rfl, findsM (by omega)]; rfl
    · by_cases hb : 0 ≤ b.toInt ∧ b.toInt < m
      · obtain ⟨i, hi, rfl⟩ := toI_ex (by omega) hb
        refine ⟨sF (6 + r) i + 1000, gi, ga, va_up sF (6 + r) (upd (sF (6 + r)) i v.toInt8.toInt32), mi, va_up ma 13 (upd (ma 13) (60 * r + i) v.toInt8.toInt32), ?_, ?_, ?_, ?_, R.2.2⟩
        · rw [X8_put, h1, Option.bind_some, if_neg one_ne, gd_nI (by omega) (by omega), cl_nI (by omega), isMissingC, if_pos hpos, Option.bind_some, if_pos rfl, gd_nI (by omega) (by omega), hasC (by omega) em, if_pos hb, Option.bind_some, if_neg one_ne, gd_nI (by omega) (by omega), sL60, gd_nI (by omega) (by omega), gd_nI (by omega) (by omega), gd_nI (by omega) (by omega), lt_, cl_nI (by omega)]
        · rw [X9_put, h2, Option.bind_some, if_neg one_ne, gd_nI (by omega) (by omega), cl_nI (by omega), ← e1, if_pos hpos, gd_nI (by omega) (by omega), em, inSzM (by omega), if_pos hb, Option.bind_some, if_neg one_ne, show (60 : Int32) = nI 60 from rfl, pk_mul, nI_add, gd_nI (by omega) (by omega), gd_nI (by omega) (by omega), lt_, cl_nI (by omega), (ef i (by omega)).1, Int32.add_comm]
        · intro s hs
          rw [up_ne sF _ (show s ≠ 6 + r by omega)]
          exact R.1 s hs
        · intro s hs
          by_cases e : s = r
          · subst e
            rw [up_at]
            refine ⟨e1, by rw [em]; exact Or.inr ⟨m, hm, rfl⟩, fun q hq => ?_⟩
            show upd (sF (6 + s)) i v.toInt8.toInt32 q = upd (ma 13) (60 * s + i) v.toInt8.toInt32 (60 * s + q) ∧ _
            unfold upd
            by_cases e2 : q = i
            · have := fb_byte_rng v
              simp only [e2, if_true, true_and]
              omega
            · rw [if_neg e2, if_neg (by omega)]
              exact ef q hq
          · obtain ⟨a1, b1, c1⟩ := R.2.1 s hs
            rw [up_ne sF _ (show 6 + s ≠ 6 + r by omega)]
            refine ⟨a1, b1, fun q hq => ?_⟩
            show sF (6 + s) q = upd (ma 13) (60 * r + i) v.toInt8.toInt32 (60 * s + q) ∧ _
            unfold upd
            rw [if_neg (by omega)]; exact c1 q hq
      · refine ⟨-3, _, _, _, _, _, ?_, ?_, Rel_found (f := 2) R (by omega)⟩
        · rw [X8_put, h1, Option.bind_some, if_neg one_ne, gd_nI (by omega) (by omega), cl_nI (by omega), isMissingC, if_pos hpos, Option.bind_some, if_pos rfl, gd_nI (by omega) (by omega), hasC (by omega) em, if_neg hb, Option.bind_some, if_pos rfl, show (2 : Int32) = nI 2 from rfl, foundC (by omega) (by omega)]; rfl
        · rw [X9_put, h2, Option.bind_some, if_neg one_ne, gd_nI (by omega) (by omega), cl_nI (by omega), ← e1, if_pos hpos, gd_nI (by omega) (by omega), em, inSzM (by omega), if_neg hb, Option.bind_some, if_pos rfl, show (2 : Int32) = nI 2 from rfl, findsM (by omega)]; rfl
  · refine ⟨-1, gi, ga, sF, mi, ma, ?_, ?_, R⟩
    · rw [X8_put, h1, Option.bind_some, if_pos rfl]
    · rw [X9_put, h2, Option.bind_some, if_pos rfl]
end
