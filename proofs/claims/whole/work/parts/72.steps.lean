section
variable {P n : Nat} {k t l h a l' h' a' : Nat → Int32} {d d' : Int32} {vS vS' : Nat → Nat → Int32} {vF vF' : Nat → Nat → Nat → Int32} {D D' : Nat → Nat} {mi mi' : Nat → Int32} {ma ma' : Nat → Nat → Int32}
variable {gi : Nat → Int32} {gl : Nat → Int64} {ga : Nat → Nat → Int32} {sN : Nat → Int32} {sF : Nat → Nat → Int32} {ml : Nat → Int64}
theorem m2_60 (hn : n ≤ 60) : (nI n = (60 : Int32)) ↔ n = 60 := nI_eq (b := 60) (by omega) (by omega)
theorem touch_core (R : Rel gi gl ga vS vF sN sF mi ml ma) {x : Nat} {y z : Int32} (hP : ∃ P, mi 0 = nI P ∧ P ≤ 7 ∧ x < P ∧ (z = 9 ∨ ∃ u, u < P ∧ z = nI u)) (hy : y = 0 ∨ y = 1) :
    ∃ r vS' vF' mi' ma', X8_touch_20 (nI x) y z vS vF = some (r, vS', vF') ∧ X9_touch_32 (nI x) y z mi ma = some (r, mi', ma') ∧ Rel gi gl ga vS' vF' sN sF mi' ml ma' := by
  obtain ⟨P, k, e0, ek, ⟨n, t, hH, hA, hL, hD, DD, vo, vw, mw⟩, rk⟩ := R.2.2.2
  have o := vo.2 n (Nat.le_refl _)
  have h7 := o.1
  have c : CV P k t (hL n) (hH n) (hA n) (hD n) vS vF := ⟨vw.1, vw.2.1, vw.2.2.2.1⟩
  have m : MV P k t (hL n) (hH n) (hA n) (hD n) mi ma := ⟨e0, mw.1, fun x hx => ⟨ek x hx, mw.2.2.1 x hx⟩⟩
  obtain ⟨P', e0', hP7', hx, hz⟩ := hP
  have : P' = P := (nI_eq (by omega) (by omega)).mp (e0'.symm.trans e0)
  subst this
  have hold : X7_isHold vS z = some 1 := by
    rw [X7_isHold]
    rcases hz with rfl | ⟨u, hu, rfl⟩
    · rw [if_pos rfl]
    · rw [if_neg (nI_ne9 (by omega)).2, isPersonC1 c.1 h7 hu]; rfl
  rw [X8_touch_20, X9_touch_32, hold, Option.bind_some, if_neg one_ne]
  by_cases exz : nI x = z
  · exact ⟨-1, vS, vF, mi, ma, by rw [if_pos exz], by rw [if_pos exz], R⟩
  · rw [if_neg exz, if_neg exz, isStuckC c o hx, isStuckM m o hx, Option.bind_some, Option.bind_some]
    by_cases dx : DD n x = 0
    · rw [if_pos dx, if_pos rfl, if_pos rfl]
      have tail : ∀ v, ((z = 9 ∧ v = 0) ∨ ∃ u, u < P' ∧ z = nI u ∧ DD n u ≠ 0 ∧ v = DD n u) → ∃ r vS' vF' mi' ma', ((X7_isFull vS).bind (fun r67 => (if r67 = 0 then (X7_sticksBy vS vF (nI x) y).bind (fun r82 => (if r82 = 0 then some ((0 : Int32), vS, vF) else bd2 (X7_doDeed (0 : Int32) (nI x) y z vS vF) (fun vS_98 vF_98 => some ((1 : Int32), vS_98, vF_98)))) else some ((-2 : Int32), vS, vF)))) = some (r, vS', vF') ∧ X9_touch_64 (nI x) y z mi ma = some (r, mi', ma') ∧ Rel gi gl ga vS' vF' sN sF mi' ml ma' := by
        intro v hv
        rw [fullC vw.2.2.1 vo.1, Option.bind_some, X9_touch_64, mw.2.1]
        by_cases n60 : n = 60
        · exact ⟨-2, vS, vF, mi, ma, by rw [if_pos n60, if_neg one_ne], by rw [if_pos ((m2_60 vo.1).mpr n60)], R⟩
        · rw [if_neg n60, if_pos rfl, if_neg (fun w => n60 ((m2_60 vo.1).mp w)), sticksByC c o hx, sticksM m o hx hy, Option.bind_some, Option.bind_some]
          by_cases hs : y = 0 ∧ IA (k x) 1 = true
          · exact ⟨0, vS, vF, mi, ma, by rw [if_pos hs, if_pos rfl], by rw [if_pos hs, if_pos rfl], R⟩
          · rw [if_neg hs, if_neg one_ne, if_neg one_ne]
            have hn : n < 60 := by have := vo.1; omega
            obtain ⟨vS', vF', e, R', -⟩ := Rel_deed (s := 0) (w := nI x) (hh := y) (y := z) (l' := hL n) (d' := hD n)
              (mi' := va_up mi 2 (nI (n + 1))) (ma' := va_up (va_up (RMB ma n (mi 1)) 2 (upd (ma 2) x z)) 3 (upd (ma 3) x y)) R e0 ek vo vw mw rk hn
              (Or.inr (Or.inr ⟨x, hx, rfl, rfl, rfl, fun w hw => ⟨rfl, rfl, rfl⟩⟩)) (OKV_touch o hx dx hy hv) rfl (by rw [up_ne _ _ (by omega)]; exact mw.1) (up_at _ _ _) rfl rfl
              (fun r h2 h3 h4 => by rw [up_ne _ _ h3, up_ne _ _ h2]) (fun w hw => ⟨by
              rw [up_ne _ _ (by omega), up_ne _ _ (by omega), RMB_o (by omega) (by omega) (by omega) (by omega)]; exact (mw.2.2.1 w hw).2.1, by
              rw [up_ne _ _ (by omega), up_at, upd, (mw.2.2.1 w hw).2.2.1], by
              rw [up_at, upd, (mw.2.2.1 w hw).2.2.2]⟩)
            · refine ⟨1, vS', vF', _, _, by rw [e]; rfl, ?_, R'⟩
              rw [rememberM hn mw.2.1, bd2_some, gd_nI (by omega) (by omega), cl_nI (by omega), lt_, gd_nI (by omega) (by omega), lt_, up_ne _ _ (show 3 ≠ 2 by omega), RMB_o (by omega) (by omega) (by omega) (by omega), RMB_o (by omega) (by omega) (by omega) (by omega)]
      rw [X7_isSticky]
      rcases hz with rfl | ⟨u, hu, rfl⟩
      · rw [if_pos rfl, Option.bind_some, if_neg one_ne, if_pos rfl]
        exact tail 0 (Or.inl ⟨rfl, rfl⟩)
      · rw [if_neg (nI_ne9 (by omega)).2, if_neg (nI_ne9 (by omega)).2, isStuckC c o hu, isStuckM m o hu, Option.bind_some, Option.bind_some]
        by_cases du : DD n u = 0
        · exact ⟨-4, vS, vF, mi, ma, by rw [if_pos du]; rfl, by rw [if_pos du]; rfl, R⟩
        · rw [if_neg du, if_neg one_ne, if_neg one_ne, Option.bind_some, if_neg one_ne]
          exact tail (DD n u) (Or.inr ⟨u, hu, rfl, du, rfl⟩)
    · exact ⟨-4, vS, vF, mi, ma, by rw [if_neg dx, if_neg one_ne], by rw [if_neg dx, if_neg one_ne], R⟩
theorem in01 (y : Int32) : (0 ≤ y.toInt ∧ y.toInt ≤ 1) ↔ (y = 0 ∨ y = 1) := by
  constructor
  · intro q
    rcases (show y.toInt = 0 ∨ y.toInt = 1 by omega) with w | w
    · exact Or.inl (Int32.toInt_inj.mp w)
    · exact Or.inr (Int32.toInt_inj.mp w)
  · rintro (rfl | rfl) <;> decide
theorem st_touch (R : Rel gi gl ga vS vF sN sF mi ml ma) (x y z : Int32) : ∃ r vS' vF' mi' ma', X8_touch x y z vS vF = some (r, vS', vF') ∧ X9_touch x y z mi ma = some (r, mi', ma') ∧ Rel gi gl ga vS' vF' sN sF mi' ml ma' := by
  obtain ⟨P, k, t, l, h, a, d, D, c, m, o, -⟩ := R.2.2.2.view
  have h7 := o.1
  rw [X8_touch, X9_touch]
  rcases one_cases c.1 m.1 o.1 x with ⟨u, hu, rfl, h1, h2⟩ | ⟨-, h1, h2⟩
  · rw [h1, h2, Option.bind_some, Option.bind_some, if_neg one_ne, if_neg one_ne, inI _ 0 1 0 1 rfl rfl, Option.bind_some]
    by_cases hy : y = 0 ∨ y = 1
    · rw [if_pos ((in01 y).mpr hy), if_neg one_ne, show (if y = 0 then X8_touch_20 (nI u) y z vS vF else if y = 1 then X8_touch_20 (nI u) y z vS vF else some (-1, vS, vF)) = X8_touch_20 (nI u) y z vS vF by rcases hy with rfl | rfl <;> rfl]
      by_cases h9 : z = 9
      · rw [if_pos h9]
        exact touch_core R ⟨P, m.1, h7, hu, Or.inl h9⟩ hy
      · rw [if_neg h9]
        rcases one_cases c.1 m.1 o.1 z with ⟨v, hv, rfl, h1, h2⟩ | ⟨-, h1, h2⟩
        · rw [h2, Option.bind_some, if_neg one_ne]
          exact touch_core R ⟨P, m.1, h7, hu, Or.inr ⟨v, hv, rfl⟩⟩ hy
        · exact ⟨-1, vS, vF, mi, ma, by rw [X8_touch_20, X7_isHold, if_neg h9, h1]; rfl, by rw [h2]; rfl, R⟩
    · exact ⟨-1, vS, vF, mi, ma, by rw [if_neg (fun q => hy (Or.inl q)), if_neg (fun q => hy (Or.inr q))], by rw [if_neg (fun q => hy ((in01 y).mp q)), if_pos rfl], R⟩
  · exact ⟨-1, vS, vF, mi, ma, by rw [h1]; rfl, by rw [h2]; rfl, R⟩
theorem laughLoopM (h7 : P ≤ 7) (hm : mi 0 = nI P) {x : Nat} (hx : x < P) (v : Int32) : X9_laugh_47 500 (nI x) v 0 mi ma = some (v, mi, va_up (va_up (va_up ma 2 (fb_put (ma 2) (fun _ => -9) 0 P)) 3 (fb_put (ma 3) (fun _ => -9) 0 P)) 4 (upd (ma 4) x (mi 1))) := by
  have key := lu5 X9_laugh_47 (fun _ => nI x) (fun _ => v) nI (fun _ => mi) (fun i => va_up (va_up ma 2 (fb_put (ma 2) (fun _ => -9) 0 i)) 3 (fb_put (ma 3) (fun _ => -9) 0 i)) P (some (v, mi, va_up (va_up (va_up ma 2 (fb_put (ma 2) (fun _ => -9) 0 P)) 3 (fb_put (ma 3) (fun _ => -9) 0 P)) 4 (upd (ma 4) x (mi 1)))) ?_ ?_ 0 500 (by omega) (by omega)
  · have e : va_up (va_up ma 2 (fb_put (ma 2) (fun _ => -9) 0 0)) 3 (fb_put (ma 3) (fun _ => -9) 0 0) = ma := by
      rw [fb_put_0, fb_put_0]; funext i; unfold va_up
      (repeat' split) <;> (rename_i e; try rw [e])
      all_goals rfl
    rw [e] at key; exact key
  · intro n0 i hi
    rw [X9_laugh_47, hm, if_neg (nI_ge hi (by omega)), gd_nI (by omega) (by omega), cl_nI (by omega), lt_, gd_nI (by omega) (by omega), lt_, nI_1]
    congr 1
    have e2 := fb_put_succ (ma 2) (fun _ => -9) 0 i
    have e3 := fb_put_succ (ma 3) (fun _ => -9) 0 i
    rw [Nat.zero_add] at e2 e3
    rw [up_ne _ _ (show 2 ≠ 3 by omega), up_at, up_ne _ _ (show 3 ≠ 2 by omega), up_at, e2, e3]
    funext r
    by_cases r3 : r = 3
    · subst r3; rw [up_at, up_at]
    · rw [up_ne _ _ r3, up_ne _ _ r3]
      by_cases r2 : r = 2
      · subst r2; rw [up_at, up_at]
      · rw [up_ne _ _ r2, up_ne _ _ r3, up_ne _ _ r2, up_ne _ _ r2]
  · intro n0
    rw [X9_laugh_47, hm, if_pos (nI_le (Nat.le_refl _) (by omega)), gd_nI (by omega) (by omega), cl_nI (by omega), lt_, up_ne _ _ (show 4 ≠ 3 by omega), up_ne _ _ (show 4 ≠ 2 by omega)]
theorem st_laugh (R : Rel gi gl ga vS vF sN sF mi ml ma) (x : Int32) : ∃ r vS' vF' mi' ma', X8_laugh x vS vF = some (r, vS', vF') ∧ X9_laugh x mi ma = some (r, mi', ma') ∧ Rel gi gl ga vS' vF' sN sF mi' ml ma' := by
  obtain ⟨P, k, e0, ek, ⟨n, t, hH, hA, hL, hD, DD, vo, vw, mw⟩, rk⟩ := R.2.2.2
  have o := vo.2 n (Nat.le_refl _)
  have h7 := o.1
  have c : CV P k t (hL n) (hH n) (hA n) (hD n) vS vF := ⟨vw.1, vw.2.1, vw.2.2.2.1⟩
  have m : MV P k t (hL n) (hH n) (hA n) (hD n) mi ma := ⟨e0, mw.1, fun x hx => ⟨ek x hx, mw.2.2.1 x hx⟩⟩
  rw [X8_laugh, X9_laugh]
  rcases one_cases c.1 m.1 o.1 x with ⟨u, hu, rfl, h1, h2⟩ | ⟨-, h1, h2⟩
  · rw [h1, h2, Option.bind_some, Option.bind_some, if_neg one_ne, if_neg one_ne, isAmusedC c o hu, mayLaughM m o hu, Option.bind_some, Option.bind_some]
    cases hM : ML P k t (hL n) (hD n) (DD n) u
    · exact ⟨-4, vS, vF, mi, ma, by rw [if_pos f0], by rw [if_pos f0], R⟩
    · rw [if_neg t1, if_neg t1, fullC vw.2.2.1 vo.1, Option.bind_some, mw.2.1]
      by_cases n60 : n = 60
      · exact ⟨-2, vS, vF, mi, ma, by rw [if_pos n60, if_neg one_ne], by rw [if_pos ((m2_60 vo.1).mpr n60)], R⟩
      · have hn : n < 60 := by have := vo.1; omega
        rw [if_neg n60, if_pos rfl, if_neg (fun w => n60 ((m2_60 vo.1).mp w)), stuckCountC c o, Option.bind_some]
        have m' : MV P k t (hL n) (hH n) (hA n) (hD n) (va_up mi 2 (nI (n + 1))) (RMB ma n (mi 1)) := by
          refine ⟨e0, mw.1, fun x hx => ?_⟩
          rw [RMB_o (by omega) (by omega) (by omega) (by omega), RMB_o (by omega) (by omega) (by omega) (by omega), RMB_o (by omega) (by omega) (by omega) (by omega), RMB_o (by omega) (by omega) (by omega) (by omega), RMB_o (by omega) (by omega) (by omega) (by omega)]
          exact m.2.2 x hx
        obtain ⟨vS', vF', e, R', -⟩ := Rel_deed (s := 1) (w := nI u) (hh := 0) (y := 0) (l' := fun x => if x = u then hD n else hL n x) (d' := hD n) (h' := fun _ => -9) (a' := fun _ => -9)
          (mi' := va_up mi 2 (nI (n + 1))) (ma' := va_up (va_up (va_up (RMB ma n (mi 1)) 2 (fb_put (ma 2) (fun _ => -9) 0 P)) 3 (fb_put (ma 3) (fun _ => -9) 0 P)) 4 (upd (ma 4) u (mi 1))) R e0 ek vo vw mw rk hn
          (Or.inr (Or.inl ⟨u, hu, rfl, rfl, rfl, fun w hw => ⟨rfl, rfl, rfl⟩⟩)) (OKV_free o) rfl (by rw [up_ne _ _ (by omega)]; exact mw.1) (up_at _ _ _) rfl rfl
          (fun r h2 h3 h4 => by rw [up_ne _ _ h4, up_ne _ _ h3, up_ne _ _ h2]) (fun w hw => ⟨by
          rw [up_at, upd, mw.1, (mw.2.2.1 w hw).2.1], by
          rw [up_ne _ _ (by omega), up_ne _ _ (by omega), up_at, fb_put_in (by omega) (by omega)], by
          rw [up_ne _ _ (by omega), up_at, fb_put_in (by omega) (by omega)]⟩)
        · refine ⟨_, vS', vF', _, _, by rw [e]; rfl, ?_, R'⟩
          rw [rememberM hn mw.2.1, bd2_some, stuckSetM m' o, Option.bind_some, bitsStuckM o, Option.bind_some, laughLoopM (mi := va_up mi 2 (nI (n + 1))) h7 e0 hu, RMB_o (by omega) (by omega) (by omega) (by omega), RMB_o (by omega) (by omega) (by omega) (by omega), RMB_o (by omega) (by omega) (by omega) (by omega), up_ne mi _ (show 1 ≠ 2 by omega)]
  · exact ⟨-1, vS, vF, mi, ma, by rw [h1]; rfl, by rw [h2]; rfl, R⟩
theorem st_days (R : Rel gi gl ga vS vF sN sF mi ml ma) (x : Int32) : ∃ r vS' vF' mi' ma', X8_days x vS vF = some (r, vS', vF') ∧ X9_days x mi ma = some (r, mi', ma') ∧ Rel gi gl ga vS' vF' sN sF mi' ml ma' := by
  obtain ⟨P, k, e0, ek, ⟨n, t, hH, hA, hL, hD, DD, vo, vw, mw⟩, rk⟩ := R.2.2.2
  have o := vo.2 n (Nat.le_refl _)
  have h7 := o.1
  rw [X8_days, X9_days, inI _ 0 400 0 400 rfl rfl, Option.bind_some]
  have x0 : x < 0 ↔ x.toInt < 0 := Int32.lt_iff_toInt_lt
  have x4 : x ≤ 400 ↔ x.toInt ≤ 400 := Int32.le_iff_toInt_le
  by_cases hw : 0 ≤ x.toInt ∧ x.toInt ≤ 400
  · rw [if_pos hw, if_neg (by rw [x0]; omega), if_pos (x4.mpr hw.2), if_neg one_ne, vw.1, e0]
    by_cases p0 : nI P = 0
    · exact ⟨-4, vS, vF, mi, ma, by rw [if_pos p0], by rw [if_pos p0], R⟩
    · rw [if_neg p0, if_neg p0, fullC vw.2.2.1 vo.1, Option.bind_some, mw.2.1]
      by_cases n60 : n = 60
      · exact ⟨-2, vS, vF, mi, ma, by rw [if_pos n60, if_neg one_ne], by rw [if_pos ((m2_60 vo.1).mpr n60)], R⟩
      · have hn : n < 60 := by have := vo.1; omega
        rw [if_neg n60, if_pos rfl, if_neg (fun w => n60 ((m2_60 vo.1).mp w)), vw.2.1, mw.1]
        by_cases h9 : hD n + x ≤ 9999
        · rw [if_pos h9, if_pos h9]
          obtain ⟨vS', vF', e, R', ed⟩ := Rel_deed (s := 2) (w := x) (hh := 0) (y := 0) (l' := hL n) (d' := hD n + x) (h' := hH n) (a' := hA n)
            (mi' := va_up (va_up mi 2 (nI (n + 1))) 1 (hD n + x)) (ma' := RMB ma n (mi 1)) R e0 ek vo vw mw rk hn
            (Or.inl ⟨rfl, rfl, fun w hw => ⟨rfl, rfl, rfl⟩⟩) o rfl (up_at _ _ _) (by rw [up_ne _ _ (by omega), up_at]) rfl rfl
            (fun r h2 h3 h4 => rfl) (fun w hw => by
            rw [RMB_o (by omega) (by omega) (by omega) (by omega), RMB_o (by omega) (by omega) (by omega) (by omega), RMB_o (by omega) (by omega) (by omega) (by omega)]
            exact (mw.2.2.1 w hw).2)
          · refine ⟨hD n + x, vS', vF', _, _, ?_, ?_, R'⟩
            · rw [e, bd2_some, ed]
            · rw [rememberM hn mw.2.1, bd2_some, lt_, up_at, up_ne mi _ (show 1 ≠ 2 by omega), mw.1]
        · exact ⟨-2, vS, vF, mi, ma, by rw [if_neg h9], by rw [if_neg h9], R⟩
  · rw [if_neg hw, if_pos rfl]
    refine ⟨-1, vS, vF, mi, ma, ?_, rfl, R⟩
    split
    · rfl
    · rename_i q; rw [x0] at q; rw [if_neg (by rw [x4]; omega)]
end
