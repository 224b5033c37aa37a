/-- the reference's past, with what is now put to it -/
def PM (ma : Nat → Nat → Int32) (n i : Nat) : Nat → Nat → Int32 := fun r => if r = 5 then fb_put (ma 5) (ma 2) (7 * n) i else if r = 6 then fb_put (ma 6) (ma 3) (7 * n) i else if r = 7 then fb_put (ma 7) (ma 4) (7 * n) i else ma r
def RMB (ma : Nat → Nat → Int32) (n : Nat) (d : Int32) : Nat → Nat → Int32 := va_up (PM ma n 7) 8 (upd (ma 8) n d)
theorem PM_0 (ma : Nat → Nat → Int32) (n : Nat) : PM ma n 0 = ma := by
  funext r; unfold PM; rw [fb_put_0, fb_put_0, fb_put_0]
  (repeat' split) <;> (rename_i e; try rw [e])
  all_goals rfl
theorem PM_o {ma : Nat → Nat → Int32} {n i r : Nat} (h5 : r ≠ 5) (h6 : r ≠ 6) (h7 : r ≠ 7) : PM ma n i r = ma r := by unfold PM; rw [if_neg h5, if_neg h6, if_neg h7]
theorem PM_s (ma : Nat → Nat → Int32) (n i : Nat) : va_up (va_up (va_up (PM ma n i) 5 (upd (PM ma n i 5) (7 * n + i) (ma 2 i))) 6 (upd (PM ma n i 6) (7 * n + i) (ma 3 i))) 7 (upd (PM ma n i 7) (7 * n + i) (ma 4 i)) = PM ma n (i + 1) := by
  funext r
  by_cases h5 : r = 5
  · subst h5
    rw [up_ne _ _ (by omega), up_ne _ _ (by omega), up_at]
    exact fb_put_succ (ma 5) (ma 2) (7 * n) i
  · by_cases h6 : r = 6
    · subst h6
      rw [up_ne _ _ (by omega), up_at]
      exact fb_put_succ (ma 6) (ma 3) (7 * n) i
    · by_cases h7 : r = 7
      · subst h7
        rw [up_at]
        exact fb_put_succ (ma 7) (ma 4) (7 * n) i
      · rw [up_ne _ _ h7, up_ne _ _ h6, up_ne _ _ h5, PM_o h5 h6 h7, PM_o h5 h6 h7]
theorem mix7 {n i : Nat} (h : n < 60) (hi : i < 7) : (7 : Int32) * nI n + nI i = nI (7 * n + i) := by
  rw [show (7 : Int32) = nI 7 from rfl, pk_mul, nI_add]
theorem rememberM {n : Nat} (hn : n < 60) {mi : Nat → Int32} {ma : Nat → Nat → Int32} (e : mi 2 = nI n) : X9_remember mi ma = some (va_up mi 2 (nI (n + 1)), RMB ma n (mi 1)) := by
  rw [X9_remember]
  have key := lu3 X9_remember_2 nI (fun _ => mi) (fun i => PM ma n i) 7 (some (va_up mi 2 (nI (n + 1)), RMB ma n (mi 1))) ?_ ?_ 0 500 (by omega) (by omega)
  · rw [PM_0] at key; exact key
  · intro n0 i hi
    rw [X9_remember_2, if_neg (show ¬ (7 : Int32) ≤ nI i from (nI_ge hi (by omega) : ¬ nI 7 ≤ nI i)), e, mix7 hn hi, gd_nI hi (by omega), gd_nI (show 7 * n + i < 420 by omega) (by omega), cl_nI (by omega), cl_nI (by omega), lt_, gd_nI hi (by omega), gd_nI (show 7 * n + i < 420 by omega) (by omega), lt_, gd_nI hi (by omega), gd_nI (show 7 * n + i < 420 by omega) (by omega), lt_, nI_1]
    rw [up_ne _ _ (show 6 ≠ 5 by omega), up_ne _ _ (show 3 ≠ 5 by omega), up_ne _ _ (show 7 ≠ 6 by omega), up_ne _ _ (show 7 ≠ 5 by omega), up_ne _ _ (show 4 ≠ 6 by omega), up_ne _ _ (show 4 ≠ 5 by omega)]
    rw [show PM ma n i 2 = ma 2 from PM_o (by omega) (by omega) (by omega), show PM ma n i 3 = ma 3 from PM_o (by omega) (by omega) (by omega), show PM ma n i 4 = ma 4 from PM_o (by omega) (by omega) (by omega), PM_s]
  · intro n0
    rw [X9_remember_2, if_pos (show (7 : Int32) ≤ nI 7 by decide), e, gd_nI hn (by omega), cl_nI (by omega), lt_, lt_, nI_1, RMB, show PM ma n 7 8 = ma 8 from PM_o (by omega) (by omega) (by omega)]
section
variable {P n : Nat} {k t l h a l' h' a' : Nat → Int32} {d d' : Int32} {vS vS' : Nat → Nat → Int32} {vF vF' : Nat → Nat → Nat → Int32} {D D' : Nat → Nat} {mi mi' : Nat → Int32} {ma ma' : Nat → Nat → Int32}
variable {gi : Nat → Int32} {gl : Nat → Int64} {ga : Nat → Nat → Int32} {sN : Nat → Int32} {sF : Nat → Nat → Int32} {ml : Nat → Int64}
variable {hH hA hL : Nat → Nat → Int32} {hD : Nat → Int32} {DD : Nat → Nat → Nat}
theorem VO_ext (vo : VO P n k t hH hA DD) (hn : n < 60) (ok : OKV P k t h' a' D') : VO P (n + 1) k t (ext hH n h') (ext hA n a') (ext DD n D') := by
  refine ⟨by omega, fun d hd => ?_⟩
  rcases Nat.lt_or_ge n d with q | q
  · have : d = n + 1 := by omega
    subst this; rw [ext_s, ext_s, ext_s]; exact ok
  · rw [ext_le q, ext_le q, ext_le q]; exact vo.2 d q
theorem RK_fr {q : Nat} (R : RK P k vS vF ma q) (e1 : vS' (1 + q) = vS (1 + q)) (e2 : vF' (1 + q) = vF (1 + q)) (e3 : ∀ r, 14 ≤ r → r ≤ 23 → ma' r = ma r) : RK P k vS' vF' ma' q := by
  unfold RK at *
  rw [e1, e2, e3 14 (by omega) (by omega), e3 15 (by omega) (by omega), e3 16 (by omega) (by omega), e3 17 (by omega) (by omega), e3 18 (by omega) (by omega), e3 19 (by omega) (by omega), e3 20 (by omega) (by omega), e3 21 (by omega) (by omega), e3 22 (by omega) (by omega), e3 23 (by omega) (by omega)]
  exact R
theorem Rel_v (R : Rel gi gl ga vS vF sN sF mi ml ma) (e1 : ∀ r, 9 ≤ r → r ≤ 13 → ma' r = ma r) (e3 : mi' 3 = mi 3) (e4 : mi' 4 = mi 4) (rv : RV vS' vF' mi' ma') : Rel gi gl ga vS' vF' sN sF mi' ml ma' := by
  refine ⟨fun r hr => ?_, fun r hr => ?_, ⟨?_, ?_, R.2.2.1.2.2.1, R.2.2.1.2.2.2.1, fun f hf => ?_⟩, rv⟩
  · rw [e1 10 (by omega) (by omega), e1 11 (by omega) (by omega)]; exact R.1 r hr
  · rw [e1 12 (by omega) (by omega), e1 13 (by omega) (by omega)]; exact R.2.1 r hr
  · rw [e4]; exact R.2.2.1.1
  · rw [e3]; exact R.2.2.1.2.1
  · rw [e1 9 (by omega) (by omega)]; exact R.2.2.1.2.2.2.2 f hf
theorem RMB_o {r : Nat} (h5 : r ≠ 5) (h6 : r ≠ 6) (h7 : r ≠ 7) (h8 : r ≠ 8) : RMB ma n d r = ma r := by
  rw [RMB, up_ne _ _ h8, PM_o h5 h6 h7]
theorem Rel_deed (R : Rel gi gl ga vS vF sN sF mi ml ma) (e0 : mi 0 = nI P) (ek : ∀ x, x < P → ma 0 x = k x) (vo : VO P n k t hH hA DD) (vw : VW P n k t hH hA hL hD (vS 0) (vF 0))
    (mw : MW P n t hH hA hL hD (ma 1) (ma 2) (ma 3) (ma 4) (mi 1) (mi 2) (ma 5) (ma 6) (ma 7) (ma 8)) (rk : ∀ q, q < 3 → RK P k vS vF ma q) (hn : n < 60) {s w hh y : Int32}
    (r : DRv P s w hh y (hH n) (hA n) (hL n) (hD n) h' a' l' d') (ok : OKV P k t h' a' D')
    (m0 : mi' 0 = mi 0) (m1 : mi' 1 = d') (m2 : mi' 2 = nI (n + 1)) (m3 : mi' 3 = mi 3) (m4 : mi' 4 = mi 4)
    (hr : ∀ r, r ≠ 2 → r ≠ 3 → r ≠ 4 → ma' r = RMB ma n (mi 1) r) (hx : ∀ x, x < P → ma' 4 x = l' x ∧ ma' 2 x = h' x ∧ ma' 3 x = a' x) :
    ∃ vS' vF', X7_doDeed s w hh y vS vF = some (vS', vF') ∧ Rel gi gl ga vS' vF' sN sF mi' ml ma' ∧ vS' 0 1 = d' := by
  have h7 := ok.1
  obtain ⟨vS', vF', e, vw', fq⟩ := doDeedC h7 hn vw r
  refine ⟨vS', vF', e, Rel_v R (fun r h9 h13 => by rw [hr r (by omega) (by omega) (by omega), RMB_o (by omega) (by omega) (by omega) (by omega)]) m3 m4 ⟨P, k, by rw [m0, e0], fun x hx => ?_, ⟨n + 1, t, ext hH n h', ext hA n a', ext hL n l', ext hD n d', ext DD n D', VO_ext vo hn ok, vw', ?_⟩, fun q hq => ?_⟩, ?_⟩
  · rw [hr 0 (by omega) (by omega) (by omega), RMB_o (by omega) (by omega) (by omega) (by omega)]; exact ek x hx
  · obtain ⟨w1, w2, wx, wd⟩ := mw
    refine ⟨by rw [m1, ext_s], m2, fun x hx' => ?_, fun i hi => ?_⟩
    · rw [ext_s, ext_s, ext_s, hr 1 (by omega) (by omega) (by omega), RMB_o (by omega) (by omega) (by omega) (by omega)]
      exact ⟨(wx x hx').1, hx x hx'⟩
    · rw [hr 5 (by omega) (by omega) (by omega), hr 6 (by omega) (by omega) (by omega), hr 7 (by omega) (by omega) (by omega), hr 8 (by omega) (by omega) (by omega), ext_le (by omega), ext_le (by omega), ext_le (by omega), ext_le (by omega)]
      have p5 : RMB ma n (mi 1) 5 = fb_put (ma 5) (ma 2) (7 * n) 7 := rfl
      have p6 : RMB ma n (mi 1) 6 = fb_put (ma 6) (ma 3) (7 * n) 7 := rfl
      have p7 : RMB ma n (mi 1) 7 = fb_put (ma 7) (ma 4) (7 * n) 7 := rfl
      have p8 : RMB ma n (mi 1) 8 = upd (ma 8) n (mi 1) := rfl
      rw [p5, p6, p7, p8]
      rcases Nat.lt_or_ge i n with q | q
      · refine ⟨by rw [upd, if_neg (by omega)]; exact (wd i q).1, fun x hx' => ?_⟩
        rw [fb_put_out (by omega), fb_put_out (by omega), fb_put_out (by omega)]
        exact (wd i q).2 x hx'
      · have : i = n := by omega
        subst this
        refine ⟨by rw [upd, if_pos rfl, w1], fun x hx' => ?_⟩
        rw [fb_put_in (by omega) (by omega), fb_put_in (by omega) (by omega), fb_put_in (by omega) (by omega), show 7 * i + x - 7 * i = x by omega]
        exact ⟨(wx x hx').2.2.1, (wx x hx').2.2.2, (wx x hx').2.1⟩
  · exact RK_fr (rk q hq) (fq (1 + q) (by omega)).1 (fq (1 + q) (by omega)).2 (fun r h1 h2 => by rw [hr r (by omega) (by omega) (by omega), RMB_o (by omega) (by omega) (by omega) (by omega)])
  · rw [vw'.2.1, ext_s]
theorem st_taste (R : Rel gi gl ga vS vF sN sF mi ml ma) (x y : Int32) : ∃ r vF' ma', X8_taste vS x y vF = some (r, vF') ∧ X9_taste mi x y ma = some (r, ma') ∧ Rel gi gl ga vS vF' sN sF mi ml ma' := by
  obtain ⟨P, k, e0, ek, ⟨n, t, hH, hA, hL, hD, DD, vo, vw, mw⟩, rk⟩ := R.2.2.2
  have o := vo.2 n (Nat.le_refl _)
  have h7 := o.1
  rw [X8_taste, X9_taste]
  rcases one_cases vw.1 e0 o.1 x with ⟨z, hz, rfl, h1, h2⟩ | ⟨-, h1, h2⟩
  · rw [h1, h2, Option.bind_some, Option.bind_some, if_neg one_ne, if_neg one_ne, inI _ 1 8 1 8 rfl rfl, Option.bind_some]
    have y1 : y < 1 ↔ y.toInt < 1 := Int32.lt_iff_toInt_lt
    have y8 : y ≤ 8 ↔ y.toInt ≤ 8 := Int32.le_iff_toInt_le
    by_cases hw : 1 ≤ y.toInt ∧ y.toInt ≤ 8
    · obtain ⟨v, hv, rfl⟩ := toI_ex (x := y) (N := 9) (by omega) (by omega)
      have hv1 : 1 ≤ v := by rw [toI_nI (by omega)] at hw; omega
      rw [if_neg (by rw [y1]; omega), if_pos (by rw [y8]; omega), if_pos hw, if_neg one_ne, gd_nI (by omega) (by omega), gd_nI (by omega) (by omega), gd_nI (by omega) (by omega), gd_nI (by omega) (by omega), cl_nI (by omega), lt_, lt_, (vw.2.2.2.1 z hz).2.1, (mw.2.2.1 z hz).1]
      refine ⟨t z, u2 vF 0 1 (upd (vF 0 1) z (nI v)), va_up ma 1 (upd (ma 1) z (nI v)), rfl, rfl, Rel_v R (fun r h1 h2 => up_ne _ _ (by omega)) rfl rfl ⟨P, k, e0, fun x hx => by rw [up_ne _ _ (by omega)]; exact ek x hx, ⟨n, upd t z (nI v), hH, hA, hL, hD, DD, ⟨vo.1, fun d hd => ?_⟩, ?_, ?_⟩, fun q hq => RK_fr (rk q hq) rfl (u2_n1 _ _ _ (by omega)) (fun r h1 h2 => up_ne _ _ (by omega))⟩⟩
      · obtain ⟨o1, o2, o3, o4⟩ := vo.2 d hd
        refine ⟨o1, o2, fun x hx => ?_, o4⟩
        unfold upd
        by_cases e : x = z
        · rw [if_pos e]; exact ⟨v, by omega, by omega, rfl⟩
        · rw [if_neg e]; exact o3 x hx
      · obtain ⟨v0, v1, v2, vx, vi, vd⟩ := vw
        refine ⟨v0, v1, v2, fun x hx => ?_, ?_, ?_⟩
        · rw [u2_at, u2_n2 vF _ _ _ (show 0 ≠ 1 by omega), u2_n2 vF _ _ _ (show 3 ≠ 1 by omega), u2_n2 vF _ _ _ (show 4 ≠ 1 by omega), u2_n2 vF _ _ _ (show 5 ≠ 1 by omega)]
          refine ⟨(vx x hx).1, ?_, (vx x hx).2.2⟩
          unfold upd; rw [(vx x hx).2.1]
        · rw [u2_n2 vF _ _ _ (show 2 ≠ 1 by omega)]; exact vi
        · rw [u2_n2 vF _ _ _ (show 6 ≠ 1 by omega), u2_n2 vF _ _ _ (show 7 ≠ 1 by omega), u2_n2 vF _ _ _ (show 8 ≠ 1 by omega), u2_n2 vF _ _ _ (show 9 ≠ 1 by omega)]; exact vd
      · obtain ⟨w1, w2, wx, wd⟩ := mw
        refine ⟨w1, w2, fun x hx => ⟨?_, (wx x hx).2⟩, wd⟩
        rw [up_at]; unfold upd; rw [(wx x hx).1]
    · rw [if_neg hw, if_pos rfl]
      refine ⟨-1, vF, ma, ?_, rfl, R⟩
      split
      · rfl
      · rename_i q; rw [y1] at q; rw [if_neg (by rw [y8]; omega)]
  · rw [h1, h2]
    exact ⟨-1, vF, ma, rfl, rfl, R⟩
theorem fullC (e : vS 0 2 = nI n) (hn : n ≤ 60) : X7_isFull vS = some (if n = 60 then 1 else 0) := by
  rw [X7_isFull, e, show (60 : Int32) = nI 60 from rfl]
  by_cases q : n = 60
  · rw [if_pos q, if_neg (nI_nlt (by omega) (by omega))]
  · rw [if_neg q, if_pos (nI_lt (by omega) (by omega))]
theorem cnt_add {p q : Nat → Bool} {w : Nat} (hp : p w = false) (hq : q w = true) (e : ∀ x, x ≠ w → q x = p x) : ∀ n, w < n → cnt q n = cnt p n + 1
  | 0, hw => by omega
  | n + 1, hw => by
    rw [cnt, cnt]
    by_cases ew : w = n
    · subst ew
      rw [hp, hq, cnt_cong (p := q) (q := p) (fun i hi => e i (by omega))]; simp
    · rw [cnt_add hp hq e n (by omega), e n (fun z => ew z.symm)]; omega
/-- one more that is STUCK -/
theorem OKV_touch (o : OKV P k t h a D) {w : Nat} (hw : w < P) (hd : D w = 0) {y g : Int32} (hg : g = 0 ∨ g = 1) {v : Nat} (hy : (y = 9 ∧ v = 0) ∨ ∃ u, u < P ∧ y = nI u ∧ D u ≠ 0 ∧ v = D u) :
    OKV P k t (fun x => if x = w then y else h x) (fun x => if x = w then g else a x) (fun x => if x = w then v + 1 else D x) := by
  obtain ⟨h7, ok, ot, oh, oc, oa⟩ := o
  have ec := cnt_add (p := stk D) (q := stk (fun x => if x = w then v + 1 else D x)) (w := w) (by simp [stk, hd]) (by simp [stk]) (fun x hx => by simp [stk, hx]) P hw
  refine ⟨h7, ok, ot, fun x hx => ?_, fun x hx => ?_, fun x hx => ?_⟩
  · by_cases e : x = w
    · simp only [if_pos e]
      rcases hy with ⟨rfl, rfl⟩ | ⟨u, hu, rfl, du, rfl⟩
      · exact Or.inr (Or.inl ⟨rfl, rfl⟩)
      · have : u ≠ w := fun z => du (z ▸ hd)
        exact Or.inr (Or.inr ⟨u, hu, rfl, by rw [if_neg this]; omega, by rw [if_neg this]⟩)
    · simp only [if_neg e]
      rcases oh x hx with q | q | ⟨u, hu, q1, q2, q3⟩
      · exact Or.inl q
      · exact Or.inr (Or.inl q)
      · have : u ≠ w := fun z => by rw [z] at q2; omega
        exact Or.inr (Or.inr ⟨u, hu, q1, by rw [if_neg this]; exact q2, by rw [if_neg this]; exact q3⟩)
  · rw [ec]
    by_cases e : x = w
    · simp only [if_pos e]
      rcases hy with ⟨rfl, rfl⟩ | ⟨u, hu, rfl, du, rfl⟩
      · omega
      · have := oc u hu; omega
    · simp only [if_neg e]
      have := oc x hx; omega
  · by_cases e : x = w
    · simp only [if_pos e]; exact Or.inr ⟨hg, by omega⟩
    · simp only [if_neg e]; exact oa x hx
theorem OKV_free (o : OKV P k t h a D) : OKV P k t (fun _ => -9) (fun _ => -9) (fun _ => 0) :=
  ⟨o.1, o.2.1, o.2.2.1, fun _ _ => Or.inl ⟨rfl, rfl⟩, fun _ _ => Nat.zero_le _, fun _ _ => Or.inl ⟨rfl, rfl⟩⟩
end
