/-- some lists with a run of places set -/
def MC (ma : Nat → Nat → Int32) (g : Nat → Nat → Int32) (p : Nat → Bool) (s i : Nat) : Nat → Nat → Int32 := fun r => if p r then fb_put (ma r) (g r) s i else ma r
theorem MC_0 (ma g : Nat → Nat → Int32) (p : Nat → Bool) (s : Nat) : MC ma g p s 0 = ma := by
  funext r; unfold MC; rw [fb_put_0]; split <;> rfl
theorem MC_o {ma g : Nat → Nat → Int32} {p : Nat → Bool} {s i r : Nat} (h : p r = false) : MC ma g p s i r = ma r := by unfold MC; rw [h]; rfl
theorem MC_y {ma g : Nat → Nat → Int32} {p : Nat → Bool} {s i r : Nat} (h : p r = true) : MC ma g p s i r = fb_put (ma r) (g r) s i := by unfold MC; rw [h]; rfl
theorem MC_u {ma g : Nat → Nat → Int32} {p : Nat → Bool} {s i r : Nat} (h : p r = true) : upd (MC ma g p s i r) (s + i) (g r i) = MC ma g p s (i + 1) r := by
  rw [MC_y h, MC_y h]; exact fb_put_succ (ma r) (g r) s i
theorem MC_1 {ma g : Nat → Nat → Int32} {p : Nat → Bool} {s i a : Nat} (hp : ∀ r, p r = decide (r = a)) : va_up (MC ma g p s i) a (upd (MC ma g p s i a) (s + i) (g a i)) = MC ma g p s (i + 1) := by
  rw [MC_u (by rw [hp]; simp)]
  funext r
  by_cases ea : r = a
  · subst ea; rw [up_at]
  · rw [up_ne _ _ ea, MC_o (by rw [hp]; simp [ea]), MC_o (by rw [hp]; simp [ea])]
theorem MC_3 {ma g : Nat → Nat → Int32} {p : Nat → Bool} {s i a b c : Nat} (hp : ∀ r, p r = (decide (r = a) || (decide (r = b) || decide (r = c)))) : va_up (va_up (va_up (MC ma g p s i) a (upd (MC ma g p s i a) (s + i) (g a i))) b (upd (MC ma g p s i b) (s + i) (g b i))) c (upd (MC ma g p s i c) (s + i) (g c i)) = MC ma g p s (i + 1) := by
  rw [MC_u (r := a) (by rw [hp]; simp), MC_u (r := b) (by rw [hp]; simp), MC_u (r := c) (by rw [hp]; simp)]
  funext r
  by_cases ec : r = c
  · subst ec; rw [up_at]
  · rw [up_ne _ _ ec]
    by_cases eb : r = b
    · subst eb; rw [up_at]
    · rw [up_ne _ _ eb]
      by_cases ea : r = a
      · subst ea; rw [up_at]
      · rw [up_ne _ _ ea, MC_o (by rw [hp]; simp [ea, eb, ec]), MC_o (by rw [hp]; simp [ea, eb, ec])]
theorem MC_4 {ma g : Nat → Nat → Int32} {p : Nat → Bool} {s i a b c d : Nat} (hp : ∀ r, p r = (decide (r = a) || (decide (r = b) || (decide (r = c) || decide (r = d))))) : va_up (va_up (va_up (va_up (MC ma g p s i) a (upd (MC ma g p s i a) (s + i) (g a i))) b (upd (MC ma g p s i b) (s + i) (g b i))) c (upd (MC ma g p s i c) (s + i) (g c i))) d (upd (MC ma g p s i d) (s + i) (g d i)) = MC ma g p s (i + 1) := by
  rw [MC_u (r := a) (by rw [hp]; simp), MC_u (r := b) (by rw [hp]; simp), MC_u (r := c) (by rw [hp]; simp), MC_u (r := d) (by rw [hp]; simp)]
  funext r
  by_cases ed : r = d
  · subst ed; rw [up_at]
  · rw [up_ne _ _ ed]
    by_cases ec : r = c
    · subst ec; rw [up_at]
    · rw [up_ne _ _ ec]
      by_cases eb : r = b
      · subst eb; rw [up_at]
      · rw [up_ne _ _ eb]
        by_cases ea : r = a
        · subst ea; rw [up_at]
        · rw [up_ne _ _ ea, MC_o (by rw [hp]; simp [ea, eb, ec, ed]), MC_o (by rw [hp]; simp [ea, eb, ec, ed])]
def p4 (a b c d : Nat) : Nat → Bool := fun r => decide (r = a) || (decide (r = b) || (decide (r = c) || decide (r = d)))
def p3 (a b c : Nat) : Nat → Bool := fun r => decide (r = a) || (decide (r = b) || decide (r = c))
def p1 (a : Nat) : Nat → Bool := fun r => decide (r = a)
theorem mixN (b n i : Nat) : (nI b) * nI n + nI i = nI (b * n + i) := by rw [pk_mul, nI_add]
section
variable {P n : Nat} {k t l h a l' h' a' : Nat → Int32} {d d' : Int32} {vS vS' : Nat → Nat → Int32} {vF vF' : Nat → Nat → Nat → Int32} {D D' : Nat → Nat} {mi mi' : Nat → Int32} {ma ma' : Nat → Nat → Int32}
variable {gi : Nat → Int32} {gl : Nat → Int64} {ga : Nat → Nat → Int32} {sN : Nat → Int32} {sF : Nat → Nat → Int32} {ml : Nat → Int64}
variable {hH hA hL : Nat → Nat → Int32} {hD : Nat → Int32} {DD : Nat → Nat → Nat}
theorem undoLoop {j : Nat} (hj : j < 60) (v : Int32) : X9_undo_34 500 (nI j) v 0 mi ma = some (v, va_up mi 1 (ma 8 j), MC ma (fun r z => ma (r + 3) (7 * j + z)) (p3 2 3 4) 0 7) := by
  have key := lu5 X9_undo_34 (fun _ => nI j) (fun _ => v) nI (fun _ => mi) (fun i => MC ma (fun r z => ma (r + 3) (7 * j + z)) (p3 2 3 4) 0 i) 7 (some (v, va_up mi 1 (ma 8 j), MC ma (fun r z => ma (r + 3) (7 * j + z)) (p3 2 3 4) 0 7)) ?_ ?_ 0 500 (by omega) (by omega)
  · rw [MC_0] at key; exact key
  · intro n0 i hi
    have st := MC_3 (ma := ma) (g := fun r z => ma (r + 3) (7 * j + z)) (p := p3 2 3 4) (s := 0) (i := i) (a := 2) (b := 3) (c := 4) (fun r => rfl)
    rw [Nat.zero_add] at st
    rw [X9_undo_34, if_neg (show ¬ (7 : Int32) ≤ nI i from (nI_ge hi (by omega) : ¬ nI 7 ≤ nI i)), show (7 : Int32) * nI j + nI i = nI (7 * j + i) from mixN 7 j i, gd_nI (by omega) (by omega), gd_nI hi (by omega), cl_nI (by omega), cl_nI (by omega), lt_, gd_nI (by omega) (by omega), gd_nI hi (by omega), lt_, gd_nI (by omega) (by omega), gd_nI hi (by omega), lt_, nI_1, ← st]
    rw [up_ne _ _ (show 3 ≠ 2 by omega), up_ne _ _ (show 6 ≠ 2 by omega), up_ne _ _ (show 4 ≠ 3 by omega), up_ne _ _ (show 4 ≠ 2 by omega), up_ne _ _ (show 7 ≠ 3 by omega), up_ne _ _ (show 7 ≠ 2 by omega), MC_o (r := 5) rfl, MC_o (r := 6) rfl, MC_o (r := 7) rfl]
  · intro n0
    rw [X9_undo_34, if_pos (show (7 : Int32) ≤ nI 7 by decide), gd_nI hj (by omega), cl_nI (by omega), lt_, MC_o (r := 8) rfl]
theorem st_undo (R : Rel gi gl ga vS vF sN sF mi ml ma) (x : Int32) : ∃ r vS' vF' mi' ma', X8_undo x vS vF = some (r, vS', vF') ∧ X9_undo x mi ma = some (r, mi', ma') ∧ Rel gi gl ga vS' vF' sN sF mi' ml ma' := by
  obtain ⟨P, k, e0, ek, ⟨n, t, hH, hA, hL, hD, DD, vo, vw, mw⟩, rk⟩ := R.2.2.2
  have o := vo.2 n (Nat.le_refl _)
  have h7 := o.1
  have hn := vo.1
  have x0 : x < 0 ↔ x.toInt < 0 := Int32.lt_iff_toInt_lt
  have xn : x ≤ nI n ↔ x.toInt ≤ n := by rw [Int32.le_iff_toInt_le, toI_nI (by omega)]
  rw [X8_undo, X9_undo, vw.2.2.1, mw.2.1, inI _ 0 (nI n).toInt64 0 n rfl (by rw [ti64, toI_nI (by omega)]), Option.bind_some]
  by_cases hw : 0 ≤ x.toInt ∧ x.toInt ≤ n
  · obtain ⟨j, hj, rfl⟩ := toI_ex (x := x) (N := n + 1) (by omega) (by omega)
    rw [if_pos hw, if_neg (by rw [x0]; omega), if_pos (xn.mpr hw.2), if_neg one_ne, pk_sub (show j ≤ n by omega)]
    obtain ⟨vS', vF', e, vw', fq⟩ := goBackC h7 vo.1 (show j ≤ n by omega) vw
    rw [e, bd2_some]
    rcases Nat.lt_or_ge j n with q | q
    · rw [if_neg (show ¬ nI (n - j) ≤ 0 from (nI_ge (show 0 < n - j by omega) (by omega) : ¬ nI (n - j) ≤ nI 0)), lt_, undoLoop (by omega)]
      refine ⟨_, vS', vF', _, _, rfl, rfl, Rel_v R (fun r h1 h2 => MC_o ?_) rfl rfl ⟨P, k, e0, fun x hx => ?_, ⟨j, t, hH, hA, hL, hD, DD, ⟨by omega, fun d hd => vo.2 d (by omega)⟩, vw', ⟨?_, rfl, fun x hx => ?_, fun i hi => ?_⟩⟩, fun q hq => RK_fr (rk q hq) (fq (1 + q) (by omega)).1 (fq (1 + q) (by omega)).2 (fun r h1 h2 => MC_o ?_)⟩⟩
      · unfold p3; simp; omega
      · rw [MC_o (r := 0) rfl]; exact ek x hx
      · rw [up_at]; exact (mw.2.2.2 j q).1
      · have w := (mw.2.2.2 j q).2 x hx
        rw [MC_o (r := 1) rfl, MC_y (r := 2) rfl, MC_y (r := 3) rfl, MC_y (r := 4) rfl, fb_put_in (by omega) (by omega), fb_put_in (by omega) (by omega), fb_put_in (by omega) (by omega), Nat.sub_zero]
        exact ⟨(mw.2.2.1 x hx).1, w.2.2, w.1, w.2.1⟩
      · rw [MC_o (r := 5) rfl, MC_o (r := 6) rfl, MC_o (r := 7) rfl, MC_o (r := 8) rfl]; exact mw.2.2.2 i (by omega)
      · unfold p3; simp; omega
    · have : j = n := by omega
      subst this
      rw [if_pos (show nI (j - j) ≤ 0 by rw [Nat.sub_self]; decide)]
      exact ⟨_, vS', vF', mi, ma, rfl, rfl, Rel_v R (fun _ _ _ => rfl) rfl rfl ⟨P, k, e0, ek, ⟨j, t, hH, hA, hL, hD, DD, vo, vw', mw⟩, fun q hq => RK_fr (rk q hq) (fq (1 + q) (by omega)).1 (fq (1 + q) (by omega)).2 (fun _ _ _ => rfl)⟩⟩
  · rw [if_neg hw, if_pos rfl]
    refine ⟨-1, vS, vF, mi, ma, ?_, rfl, R⟩
    split
    · rfl
    · rename_i q; rw [x0] at q; rw [if_neg (by rw [xn]; omega)]
theorem becomeC {q u : Nat} (hq : q ≠ u) : ∃ vS' vF', X7_become q u vS vF = some (vS', vF') ∧ (∀ r, r < 3 → vS' q r = vS u r) ∧ (∀ r, r < 6 → ∀ x, x < 7 → vF' q r x = vF u r x) ∧ (∀ r, 6 ≤ r → r < 10 → ∀ x, x < 60 → vF' q r x = vF u r x) ∧ ∀ p, p ≠ q → vS' p = vS p ∧ vF' p = vF p := by
  have z0 : (0 : Int32).toNatClampNeg = 0 := rfl
  have z7 : (7 : Int32).toNatClampNeg = 7 := rfl
  have z60 : (60 : Int32).toNatClampNeg = 60 := rfl
  have c7 : cpb 0 0 7 7 7 = true := by decide
  have c60 : cpb 0 0 60 60 60 = true := by decide
  have nq : u ≠ q := Ne.symm hq
  rw [X7_become, lt_, lt_, lt_, gd_t c7, lt_, gd_t c7, lt_, gd_t c7, lt_, gd_t c7, lt_, gd_t c7, lt_, gd_t c7, lt_, gd_t c60, lt_, gd_t c60, lt_, gd_t c60, lt_, gd_t c60, lt_, z0, z7, z60]
  refine ⟨_, _, rfl, fun r hr => ?_, fun r hr x hx => ?_, fun r h6 hr x hx => ?_, fun p hp => ⟨?_, ?_⟩⟩
  · rcases (show r = 0 ∨ r = 1 ∨ r = 2 by omega) with rfl | rfl | rfl <;> simp [u2, nq]
  · rcases (show r = 0 ∨ r = 1 ∨ r = 2 ∨ r = 3 ∨ r = 4 ∨ r = 5 by omega) with rfl | rfl | rfl | rfl | rfl | rfl <;> simp [u2, nq, va_cpy, hx]
  · rcases (show r = 6 ∨ r = 7 ∨ r = 8 ∨ r = 9 by omega) with rfl | rfl | rfl | rfl <;> simp [u2, nq, va_cpy, hx]
  · rw [u2_n1 _ _ _ hp, u2_n1 _ _ _ hp, u2_n1 _ _ _ hp]
  · rw [u2_n1 _ _ _ hp, u2_n1 _ _ _ hp, u2_n1 _ _ _ hp, u2_n1 _ _ _ hp, u2_n1 _ _ _ hp, u2_n1 _ _ _ hp, u2_n1 _ _ _ hp, u2_n1 _ _ _ hp, u2_n1 _ _ _ hp, u2_n1 _ _ _ hp]
theorem VW_cong {S S' : Nat → Int32} {F F' : Nat → Nat → Int32} (h7 : P ≤ 7) (hn : n ≤ 60) (e1 : ∀ r, r < 3 → S' r = S r) (e2 : ∀ r, r < 6 → ∀ x, x < 7 → F' r x = F r x) (e3 : ∀ r, 6 ≤ r → r < 10 → ∀ x, x < 60 → F' r x = F r x) (vw : VW P n k t hH hA hL hD S F) : VW P n k t hH hA hL hD S' F' := by
  obtain ⟨v0, v1, v2, vx, vi, vd⟩ := vw
  refine ⟨by rw [e1 0 (by omega), v0], by rw [e1 1 (by omega), v1], by rw [e1 2 (by omega), v2], fun x hx => ?_, ⟨vi.1, fun x hx => ?_⟩, fun d hd => ?_⟩
  · rw [e2 0 (by omega) x (by omega), e2 1 (by omega) x (by omega), e2 3 (by omega) x (by omega), e2 4 (by omega) x (by omega), e2 5 (by omega) x (by omega)]; exact vx x hx
  · rw [e2 2 (by omega) x (by omega)]; exact vi.2 x hx
  · rw [e3 6 (by omega) (by omega) d (by omega), e3 7 (by omega) (by omega) d (by omega), e3 8 (by omega) (by omega) d (by omega), e3 9 (by omega) (by omega) d (by omega)]; exact vd d hd
theorem MW_cong {mt mh mg mL pH pA pL pD mt' mh' mg' mL' pH' pA' pL' pD' : Nat → Int32} {md mn md' mn' : Int32} (h7 : P ≤ 7) (hn : n ≤ 60) (e1 : ∀ x, x < 7 → mt' x = mt x ∧ mh' x = mh x ∧ mg' x = mg x ∧ mL' x = mL x) (e2 : md' = md) (e3 : mn' = mn) (e4 : ∀ x, x < 420 → pH' x = pH x ∧ pA' x = pA x ∧ pL' x = pL x) (e5 : ∀ x, x < 60 → pD' x = pD x)
    (mw : MW P n t hH hA hL hD mt mh mg mL md mn pH pA pL pD) : MW P n t hH hA hL hD mt' mh' mg' mL' md' mn' pH' pA' pL' pD' := by
  obtain ⟨w1, w2, wx, wd⟩ := mw
  refine ⟨by rw [e2, w1], by rw [e3, w2], fun x hx => ?_, fun d hd => ⟨by rw [e5 d (by omega)]; exact (wd d hd).1, fun x hx => ?_⟩⟩
  · obtain ⟨q1, q2, q3, q4⟩ := e1 x (by omega)
    rw [q1, q2, q3, q4]; exact wx x hx
  · obtain ⟨q1, q2, q3⟩ := e4 (7 * d + x) (by omega)
    rw [q1, q2, q3]; exact (wd d hd).2 x hx
end
