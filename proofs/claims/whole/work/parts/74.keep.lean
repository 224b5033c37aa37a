section
variable {P n : Nat} {k t l h a l' h' a' : Nat → Int32} {d d' : Int32} {vS vS' : Nat → Nat → Int32} {vF vF' : Nat → Nat → Nat → Int32} {D D' : Nat → Nat} {mi mi' : Nat → Int32} {ma ma' : Nat → Nat → Int32}
variable {gi : Nat → Int32} {gl : Nat → Int64} {ga : Nat → Nat → Int32} {sN : Nat → Int32} {sF : Nat → Nat → Int32} {ml : Nat → Int64}
variable {hH hA hL : Nat → Nat → Int32} {hD : Nat → Int32} {DD : Nat → Nat → Nat}
def K1 (ma : Nat → Nat → Int32) (q : Nat) : Nat → Nat → Int32 := MC ma (fun r => ma (r - 15)) (p4 16 17 18 19) (7 * q) 7
def K2 (ma : Nat → Nat → Int32) (q : Nat) : Nat → Nat → Int32 := MC ma (fun r => ma (r - 15)) (p3 20 21 22) (420 * q) 420
def K3 (ma : Nat → Nat → Int32) (q : Nat) : Nat → Nat → Int32 := MC ma (fun r => ma (r - 15)) (p1 23) (60 * q) 60
theorem keep3 {q : Nat} (hq : q < 3) : X9_keep_197 mi 500 (nI q) 0 ma = some (mi 2, K3 ma q) := by
  have key := lu3 (X9_keep_197 mi) (fun _ => nI q) nI (fun i => MC ma (fun r => ma (r - 15)) (p1 23) (60 * q) i) 60 (some (mi 2, K3 ma q)) ?_ ?_ 0 500 (by omega) (by omega)
  · rw [MC_0] at key; exact key
  · intro n0 i hi
    have st := MC_1 (ma := ma) (g := fun r => ma (r - 15)) (p := p1 23) (s := 60 * q) (i := i) (a := 23) (fun r => rfl)
    rw [X9_keep_197, if_neg (show ¬ (60 : Int32) ≤ nI i from (nI_ge hi (by omega) : ¬ nI 60 ≤ nI i)), show (60 : Int32) * nI q + nI i = nI (60 * q + i) from mixN 60 q i, gd_nI hi (by omega), gd_nI (show 60 * q + i < 180 by omega) (by omega), cl_nI (by omega), cl_nI (by omega), lt_, nI_1, ← st]
    rw [MC_o (r := 8) rfl]
  · intro n0
    rw [X9_keep_197, if_pos (show (60 : Int32) ≤ nI 60 by decide)]; rfl
theorem keep2 {q : Nat} (hq : q < 3) : X9_keep_128 mi 500 (nI q) 0 ma = some (mi 2, K3 (K2 ma q) q) := by
  have key := lu3 (X9_keep_128 mi) (fun _ => nI q) nI (fun i => MC ma (fun r => ma (r - 15)) (p3 20 21 22) (420 * q) i) 420 (some (mi 2, K3 (K2 ma q) q)) ?_ ?_ 0 500 (by omega) (by omega)
  · rw [MC_0] at key; exact key
  · intro n0 i hi
    have st := MC_3 (ma := ma) (g := fun r => ma (r - 15)) (p := p3 20 21 22) (s := 420 * q) (i := i) (a := 20) (b := 21) (c := 22) (fun r => rfl)
    rw [X9_keep_128, if_neg (show ¬ (420 : Int32) ≤ nI i from (nI_ge hi (by omega) : ¬ nI 420 ≤ nI i)), show (420 : Int32) * nI q + nI i = nI (420 * q + i) from mixN 420 q i, gd_nI hi (by omega), gd_nI (show 420 * q + i < 1260 by omega) (by omega), cl_nI (by omega), cl_nI (by omega), lt_, gd_nI hi (by omega), gd_nI (show 420 * q + i < 1260 by omega) (by omega), lt_, gd_nI hi (by omega), gd_nI (show 420 * q + i < 1260 by omega) (by omega), lt_, nI_1, ← st]
    rw [up_ne _ _ (show 21 ≠ 20 by omega), up_ne _ _ (show 6 ≠ 20 by omega), up_ne _ _ (show 22 ≠ 21 by omega), up_ne _ _ (show 22 ≠ 20 by omega), up_ne _ _ (show 7 ≠ 21 by omega), up_ne _ _ (show 7 ≠ 20 by omega), MC_o (r := 5) rfl, MC_o (r := 6) rfl, MC_o (r := 7) rfl]
  · intro n0
    rw [X9_keep_128, if_pos (show (420 : Int32) ≤ nI 420 by decide)]; exact keep3 hq
theorem keep1 {q : Nat} (hq : q < 3) : X9_keep_46 mi 500 (nI q) 0 ma = some (mi 2, K3 (K2 (K1 ma q) q) q) := by
  have key := lu3 (X9_keep_46 mi) (fun _ => nI q) nI (fun i => MC ma (fun r => ma (r - 15)) (p4 16 17 18 19) (7 * q) i) 7 (some (mi 2, K3 (K2 (K1 ma q) q) q)) ?_ ?_ 0 500 (by omega) (by omega)
  · rw [MC_0] at key; exact key
  · intro n0 i hi
    have st := MC_4 (ma := ma) (g := fun r => ma (r - 15)) (p := p4 16 17 18 19) (s := 7 * q) (i := i) (a := 16) (b := 17) (c := 18) (d := 19) (fun r => rfl)
    rw [X9_keep_46, if_neg (show ¬ (7 : Int32) ≤ nI i from (nI_ge hi (by omega) : ¬ nI 7 ≤ nI i)), show (7 : Int32) * nI q + nI i = nI (7 * q + i) from mixN 7 q i, gd_nI hi (by omega), gd_nI (show 7 * q + i < 21 by omega) (by omega), cl_nI (by omega), cl_nI (by omega), lt_, gd_nI hi (by omega), gd_nI (show 7 * q + i < 21 by omega) (by omega), lt_, gd_nI hi (by omega), gd_nI (show 7 * q + i < 21 by omega) (by omega), lt_, gd_nI hi (by omega), gd_nI (show 7 * q + i < 21 by omega) (by omega), lt_, nI_1, ← st]
    rw [up_ne _ _ (show 17 ≠ 16 by omega), up_ne _ _ (show 2 ≠ 16 by omega), up_ne _ _ (show 18 ≠ 17 by omega), up_ne _ _ (show 18 ≠ 16 by omega), up_ne _ _ (show 3 ≠ 17 by omega), up_ne _ _ (show 3 ≠ 16 by omega), up_ne _ _ (show 19 ≠ 18 by omega), up_ne _ _ (show 19 ≠ 17 by omega), up_ne _ _ (show 19 ≠ 16 by omega), up_ne _ _ (show 4 ≠ 18 by omega), up_ne _ _ (show 4 ≠ 17 by omega), up_ne _ _ (show 4 ≠ 16 by omega), MC_o (r := 1) rfl, MC_o (r := 2) rfl, MC_o (r := 3) rfl, MC_o (r := 4) rfl]
  · intro n0
    rw [X9_keep_46, if_pos (show (7 : Int32) ≤ nI 7 by decide)]; exact keep2 hq
theorem kept_cases (x : Int32) : (∃ q, q < 3 ∧ x = nI q ∧ X8_isKept (nI q) = some 1 ∧ X9_in (nI q).toInt64 0 2 = some 1) ∨ (X8_isKept x = some 0 ∧ X9_in x.toInt64 0 2 = some 0) := by
  rw [X8_isKept, inI _ 0 2 0 2 rfl rfl]
  have x0 : x < 0 ↔ x.toInt < 0 := Int32.lt_iff_toInt_lt
  have x3 : 3 ≤ x ↔ 3 ≤ x.toInt := Int32.le_iff_toInt_le
  by_cases hw : 0 ≤ x.toInt ∧ x.toInt ≤ 2
  · obtain ⟨q, hq, rfl⟩ := toI_ex (x := x) (N := 3) (by omega) (by omega)
    refine Or.inl ⟨q, hq, rfl, ?_, ?_⟩
    · rw [X8_isKept, if_neg (by rw [x0]; omega), if_neg (by rw [x3]; omega)]
    · rw [inI _ 0 2 0 2 rfl rfl, if_pos hw]
  · refine Or.inr ⟨?_, by rw [if_neg hw]⟩
    split
    · rfl
    · rename_i q; rw [x0] at q; rw [if_pos (by rw [x3]; omega)]
theorem RK_cong {q : Nat} (h7 : P ≤ 7) (R : RK P k vS vF ma q) (e1 : vS' (1 + q) = vS (1 + q)) (e2 : vF' (1 + q) = vF (1 + q)) (e14 : ma' 14 q = ma 14 q) (e15 : ma' 15 q = ma 15 q) (e16 : ∀ r, 16 ≤ r → r ≤ 19 → ∀ x, x < 7 → ma' r (7 * q + x) = ma r (7 * q + x)) (e20 : ∀ r, 20 ≤ r → r ≤ 22 → ∀ x, x < 420 → ma' r (420 * q + x) = ma r (420 * q + x)) (e23 : ∀ x, x < 60 → ma' 23 (60 * q + x) = ma 23 (60 * q + x)) : RK P k vS' vF' ma' q := by
  rcases R with ⟨r1, r2⟩ | ⟨p0, n, t, hH, hA, hL, hD, DD, vo, vw, mw⟩
  · exact Or.inl ⟨by rw [e1, r1], by rw [e14, r2]⟩
  · refine Or.inr ⟨p0, n, t, hH, hA, hL, hD, DD, vo, by rw [e1, e2]; exact vw, MW_cong h7 vo.1 (fun x hx => ⟨e16 16 (by omega) (by omega) x hx, e16 17 (by omega) (by omega) x hx, e16 18 (by omega) (by omega) x hx, e16 19 (by omega) (by omega) x hx⟩) e15 e14 (fun x hx => ⟨e20 20 (by omega) (by omega) x hx, e20 21 (by omega) (by omega) x hx, e20 22 (by omega) (by omega) x hx⟩) (fun x hx => e23 x hx) mw⟩
def KK (ma : Nat → Nat → Int32) (q : Nat) (n d : Int32) : Nat → Nat → Int32 := K3 (K2 (K1 (va_up (va_up ma 14 (upd (ma 14) q n)) 15 (upd (ma 15) q d)) q) q) q
theorem KK_lo {q r : Nat} {n d : Int32} (hr : r < 14) : KK ma q n d r = ma r := by
  have h1 : p1 23 r = false := by unfold p1; simp; omega
  have h3 : p3 20 21 22 r = false := by unfold p3; simp; omega
  have h4 : p4 16 17 18 19 r = false := by unfold p4; simp; omega
  rw [KK, K3, MC_o h1, K2, MC_o h3, K1, MC_o h4, up_ne _ _ (by omega), up_ne _ _ (by omega)]
theorem KK_14 {q : Nat} {n d : Int32} : KK ma q n d 14 = upd (ma 14) q n := by
  rw [KK, K3, MC_o rfl, K2, MC_o rfl, K1, MC_o rfl, up_ne _ _ (by omega), up_at]
theorem KK_15 {q : Nat} {n d : Int32} : KK ma q n d 15 = upd (ma 15) q d := by
  rw [KK, K3, MC_o rfl, K2, MC_o rfl, K1, MC_o rfl, up_at]
theorem KK_16 {q r : Nat} {n d : Int32} (h1 : 16 ≤ r) (h2 : r ≤ 19) : KK ma q n d r = fb_put (ma r) (ma (r - 15)) (7 * q) 7 := by
  have g1 : p1 23 r = false := by unfold p1; simp; omega
  have g3 : p3 20 21 22 r = false := by unfold p3; simp; omega
  have g4 : p4 16 17 18 19 r = true := by unfold p4; simp; omega
  rw [KK, K3, MC_o g1, K2, MC_o g3, K1, MC_y g4, up_ne _ _ (by omega), up_ne _ _ (by omega), up_ne _ _ (by omega), up_ne _ _ (by omega)]
theorem KK_20 {q r : Nat} {n d : Int32} (h1 : 20 ≤ r) (h2 : r ≤ 22) : KK ma q n d r = fb_put (ma r) (ma (r - 15)) (420 * q) 420 := by
  have g1 : p1 23 r = false := by unfold p1; simp; omega
  have g3 : p3 20 21 22 r = true := by unfold p3; simp; omega
  have g4 : p4 16 17 18 19 r = false := by unfold p4; simp; omega
  have g5 : p4 16 17 18 19 (r - 15) = false := by unfold p4; simp; omega
  rw [KK, K3, MC_o g1, K2, MC_y g3, K1, MC_o g4, MC_o g5, up_ne _ _ (by omega), up_ne _ _ (by omega), up_ne _ _ (by omega), up_ne _ _ (by omega)]
theorem KK_23 {q : Nat} {n d : Int32} : KK ma q n d 23 = fb_put (ma 23) (ma 8) (60 * q) 60 := by
  rw [KK, K3, MC_y rfl, K2, MC_o rfl, MC_o rfl, K1, MC_o rfl, MC_o rfl, up_ne _ _ (by omega), up_ne _ _ (by omega), up_ne _ _ (by omega), up_ne _ _ (by omega)]
theorem st_keep (R : Rel gi gl ga vS vF sN sF mi ml ma) (x : Int32) : ∃ r vS' vF' ma', X8_keep x vS vF = some (r, vS', vF') ∧ X9_keep mi x ma = some (r, ma') ∧ Rel gi gl ga vS' vF' sN sF mi ml ma' := by
  obtain ⟨P, k, e0, ek, ⟨n, t, hH, hA, hL, hD, DD, vo, vw, mw⟩, rk⟩ := R.2.2.2
  have o := vo.2 n (Nat.le_refl _)
  have h7 := o.1
  rw [X8_keep, X9_keep]
  rcases kept_cases x with ⟨q, hq, rfl, h1, h2⟩ | ⟨h1, h2⟩
  · rw [h1, h2, Option.bind_some, Option.bind_some, if_neg one_ne, if_neg one_ne, vw.1, e0]
    by_cases p0 : nI P = 0
    · exact ⟨-4, vS, vF, ma, by rw [if_pos p0], by rw [if_pos p0], R⟩
    · obtain ⟨vS', vF', e, s1, s2, s3, s4⟩ := becomeC (vS := vS) (vF := vF) (q := 1 + q) (u := 0) (by omega)
      rw [if_neg p0, if_neg p0, gd_nI hq (by omega), cl_nI (by omega), e, bd2_some, gd_nI hq (by omega), lt_, gd_nI hq (by omega), lt_, up_ne _ _ (show 15 ≠ 14 by omega), keep1 hq]
      refine ⟨mi 2, vS', vF', KK ma q (mi 2) (mi 1), ?_, rfl, Rel_v R (fun r h1 h2 => KK_lo (by omega)) rfl rfl ⟨P, k, e0, fun x hx => by rw [KK_lo (by omega)]; exact ek x hx, ⟨n, t, hH, hA, hL, hD, DD, vo, ?_, ?_⟩, fun q' hq' => ?_⟩⟩
      · rw [(s4 0 (by omega)).1, vw.2.2.1, mw.2.1]
      · rw [(s4 0 (by omega)).1, (s4 0 (by omega)).2]; exact vw
      · rw [KK_lo (by omega), KK_lo (by omega), KK_lo (by omega), KK_lo (by omega), KK_lo (by omega), KK_lo (by omega), KK_lo (by omega), KK_lo (by omega)]; exact mw
      · by_cases eq : q' = q
        · subst eq
          refine Or.inr ⟨fun z => p0 (by rw [z]; rfl), n, t, hH, hA, hL, hD, DD, vo, VW_cong h7 vo.1 s1 s2 s3 vw, ?_⟩
          refine MW_cong h7 vo.1 (fun x hx => ?_) ?_ ?_ (fun x hx => ?_) (fun x hx => ?_) mw
          · rw [KK_16 (by omega) (by omega), KK_16 (by omega) (by omega), KK_16 (by omega) (by omega), KK_16 (by omega) (by omega), fb_put_in (by omega) (by omega), fb_put_in (by omega) (by omega), fb_put_in (by omega) (by omega), fb_put_in (by omega) (by omega), show 7 * q' + x - 7 * q' = x by omega]
            exact ⟨rfl, rfl, rfl, rfl⟩
          · rw [KK_15, upd, if_pos rfl]
          · rw [KK_14, upd, if_pos rfl]
          · rw [KK_20 (by omega) (by omega), KK_20 (by omega) (by omega), KK_20 (by omega) (by omega), fb_put_in (by omega) (by omega), fb_put_in (by omega) (by omega), fb_put_in (by omega) (by omega), show 420 * q' + x - 420 * q' = x by omega]
            exact ⟨rfl, rfl, rfl⟩
          · rw [KK_23, fb_put_in (by omega) (by omega), show 60 * q' + x - 60 * q' = x by omega]
        · refine RK_cong h7 (rk q' hq') (s4 (1 + q') (by omega)).1 (s4 (1 + q') (by omega)).2 ?_ ?_ (fun r h1 h2 x hx => ?_) (fun r h1 h2 x hx => ?_) (fun x hx => ?_)
          · rw [KK_14, upd, if_neg eq]
          · rw [KK_15, upd, if_neg eq]
          · rw [KK_16 h1 h2, fb_put_out (by omega)]
          · rw [KK_20 h1 h2, fb_put_out (by omega)]
          · rw [KK_23, fb_put_out (by omega)]
  · exact ⟨-1, vS, vF, ma, by rw [h1]; rfl, by rw [h2]; rfl, R⟩
def O1 (ma : Nat → Nat → Int32) (q : Nat) : Nat → Nat → Int32 := MC ma (fun r z => ma (r + 15) (7 * q + z)) (p4 1 2 3 4) 0 7
def O2 (ma : Nat → Nat → Int32) (q : Nat) : Nat → Nat → Int32 := MC ma (fun r z => ma (r + 15) (420 * q + z)) (p3 5 6 7) 0 420
def O3 (ma : Nat → Nat → Int32) (q : Nat) : Nat → Nat → Int32 := MC ma (fun r z => ma (r + 15) (60 * q + z)) (p1 8) 0 60
theorem on3 {q : Nat} (hq : q < 3) : X9_on_202 500 (nI q) 0 mi ma = some (mi 2, mi, O3 ma q) := by
  have key := lu4 X9_on_202 (fun _ => nI q) nI (fun _ => mi) (fun i => MC ma (fun r z => ma (r + 15) (60 * q + z)) (p1 8) 0 i) 60 (some (mi 2, mi, O3 ma q)) ?_ ?_ 0 500 (by omega) (by omega)
  · rw [MC_0] at key; exact key
  · intro n0 i hi
    have st := MC_1 (ma := ma) (g := fun r z => ma (r + 15) (60 * q + z)) (p := p1 8) (s := 0) (i := i) (a := 8) (fun r => rfl)
    rw [Nat.zero_add] at st
    rw [X9_on_202, if_neg (show ¬ (60 : Int32) ≤ nI i from (nI_ge hi (by omega) : ¬ nI 60 ≤ nI i)), show (60 : Int32) * nI q + nI i = nI (60 * q + i) from mixN 60 q i, gd_nI (show 60 * q + i < 180 by omega) (by omega), gd_nI hi (by omega), cl_nI (by omega), cl_nI (by omega), lt_, nI_1, ← st]
    rw [MC_o (r := 23) rfl]
  · intro n0
    rw [X9_on_202, if_pos (show (60 : Int32) ≤ nI 60 by decide)]; rfl
theorem on2 {q : Nat} (hq : q < 3) : X9_on_133 500 (nI q) 0 mi ma = some (mi 2, mi, O3 (O2 ma q) q) := by
  have key := lu4 X9_on_133 (fun _ => nI q) nI (fun _ => mi) (fun i => MC ma (fun r z => ma (r + 15) (420 * q + z)) (p3 5 6 7) 0 i) 420 (some (mi 2, mi, O3 (O2 ma q) q)) ?_ ?_ 0 500 (by omega) (by omega)
  · rw [MC_0] at key; exact key
  · intro n0 i hi
    have st := MC_3 (ma := ma) (g := fun r z => ma (r + 15) (420 * q + z)) (p := p3 5 6 7) (s := 0) (i := i) (a := 5) (b := 6) (c := 7) (fun r => rfl)
    rw [Nat.zero_add] at st
    rw [X9_on_133, if_neg (show ¬ (420 : Int32) ≤ nI i from (nI_ge hi (by omega) : ¬ nI 420 ≤ nI i)), show (420 : Int32) * nI q + nI i = nI (420 * q + i) from mixN 420 q i, gd_nI (show 420 * q + i < 1260 by omega) (by omega), gd_nI hi (by omega), cl_nI (by omega), cl_nI (by omega), lt_, gd_nI (show 420 * q + i < 1260 by omega) (by omega), gd_nI hi (by omega), lt_, gd_nI (show 420 * q + i < 1260 by omega) (by omega), gd_nI hi (by omega), lt_, nI_1, ← st]
    rw [up_ne _ _ (show 6 ≠ 5 by omega), up_ne _ _ (show 21 ≠ 5 by omega), up_ne _ _ (show 7 ≠ 6 by omega), up_ne _ _ (show 7 ≠ 5 by omega), up_ne _ _ (show 22 ≠ 6 by omega), up_ne _ _ (show 22 ≠ 5 by omega), MC_o (r := 20) rfl, MC_o (r := 21) rfl, MC_o (r := 22) rfl]
  · intro n0
    rw [X9_on_133, if_pos (show (420 : Int32) ≤ nI 420 by decide)]; exact on3 hq
theorem on1 {q : Nat} (hq : q < 3) : X9_on_51 500 (nI q) 0 mi ma = some (mi 2, mi, O3 (O2 (O1 ma q) q) q) := by
  have key := lu4 X9_on_51 (fun _ => nI q) nI (fun _ => mi) (fun i => MC ma (fun r z => ma (r + 15) (7 * q + z)) (p4 1 2 3 4) 0 i) 7 (some (mi 2, mi, O3 (O2 (O1 ma q) q) q)) ?_ ?_ 0 500 (by omega) (by omega)
  · rw [MC_0] at key; exact key
  · intro n0 i hi
    have st := MC_4 (ma := ma) (g := fun r z => ma (r + 15) (7 * q + z)) (p := p4 1 2 3 4) (s := 0) (i := i) (a := 1) (b := 2) (c := 3) (d := 4) (fun r => rfl)
    rw [Nat.zero_add] at st
    rw [X9_on_51, if_neg (show ¬ (7 : Int32) ≤ nI i from (nI_ge hi (by omega) : ¬ nI 7 ≤ nI i)), show (7 : Int32) * nI q + nI i = nI (7 * q + i) from mixN 7 q i, gd_nI (show 7 * q + i < 21 by omega) (by omega), gd_nI hi (by omega), cl_nI (by omega), cl_nI (by omega), lt_, gd_nI (show 7 * q + i < 21 by omega) (by omega), gd_nI hi (by omega), lt_, gd_nI (show 7 * q + i < 21 by omega) (by omega), gd_nI hi (by omega), lt_, gd_nI (show 7 * q + i < 21 by omega) (by omega), gd_nI hi (by omega), lt_, nI_1, ← st]
    rw [up_ne _ _ (show 2 ≠ 1 by omega), up_ne _ _ (show 17 ≠ 1 by omega), up_ne _ _ (show 3 ≠ 2 by omega), up_ne _ _ (show 3 ≠ 1 by omega), up_ne _ _ (show 18 ≠ 2 by omega), up_ne _ _ (show 18 ≠ 1 by omega), up_ne _ _ (show 4 ≠ 3 by omega), up_ne _ _ (show 4 ≠ 2 by omega), up_ne _ _ (show 4 ≠ 1 by omega), up_ne _ _ (show 19 ≠ 3 by omega), up_ne _ _ (show 19 ≠ 2 by omega), up_ne _ _ (show 19 ≠ 1 by omega), MC_o (r := 16) rfl, MC_o (r := 17) rfl, MC_o (r := 18) rfl, MC_o (r := 19) rfl]
  · intro n0
    rw [X9_on_51, if_pos (show (7 : Int32) ≤ nI 7 by decide)]; exact on2 hq
def OO (ma : Nat → Nat → Int32) (q : Nat) : Nat → Nat → Int32 := O3 (O2 (O1 ma q) q) q
theorem OO_o {q r : Nat} (hr : r = 0 ∨ 9 ≤ r) : OO ma q r = ma r := by
  have h1 : p1 8 r = false := by unfold p1; simp; omega
  have h3 : p3 5 6 7 r = false := by unfold p3; simp; omega
  have h4 : p4 1 2 3 4 r = false := by unfold p4; simp; omega
  rw [OO, O3, MC_o h1, O2, MC_o h3, O1, MC_o h4]
theorem OO_1 {q r : Nat} (h1 : 1 ≤ r) (h2 : r ≤ 4) : OO ma q r = fb_put (ma r) (fun z => ma (r + 15) (7 * q + z)) 0 7 := by
  have g1 : p1 8 r = false := by unfold p1; simp; omega
  have g3 : p3 5 6 7 r = false := by unfold p3; simp; omega
  have g4 : p4 1 2 3 4 r = true := by unfold p4; simp; omega
  rw [OO, O3, MC_o g1, O2, MC_o g3, O1, MC_y g4]
theorem OO_5 {q r : Nat} (h1 : 5 ≤ r) (h2 : r ≤ 7) : OO ma q r = fb_put (ma r) (fun z => ma (r + 15) (420 * q + z)) 0 420 := by
  have g1 : p1 8 r = false := by unfold p1; simp; omega
  have g3 : p3 5 6 7 r = true := by unfold p3; simp; omega
  have g4 : p4 1 2 3 4 r = false := by unfold p4; simp; omega
  have g5 : p4 1 2 3 4 (r + 15) = false := by unfold p4; simp
  rw [OO, O3, MC_o g1, O2, MC_y g3, O1, MC_o g4, MC_o g5]
theorem OO_8 {q : Nat} : OO ma q 8 = fb_put (ma 8) (fun z => ma 23 (60 * q + z)) 0 60 := by
  rw [OO, O3, MC_y rfl, O2, MC_o rfl, MC_o rfl, O1, MC_o rfl, MC_o rfl]
theorem st_on (R : Rel gi gl ga vS vF sN sF mi ml ma) (x : Int32) : ∃ r gi' ga' vS' vF' mi' ma', X8_on x gi ga vS vF = some (r, gi', ga', vS', vF') ∧ X9_on x mi ma = some (r, mi', ma') ∧ Rel gi' gl ga' vS' vF' sN sF mi' ml ma' := by
  obtain ⟨P, k, e0, ek, ⟨n0, t0, hH0, hA0, hL0, hD0, DD0, vo0, vw0, mw0⟩, rk⟩ := R.2.2.2
  have h7 := (vo0.2 n0 (Nat.le_refl _)).1
  rw [X8_on, X9_on]
  rcases kept_cases x with ⟨q, hq, rfl, h1, h2⟩ | ⟨h1, h2⟩
  · rw [h1, h2, Option.bind_some, Option.bind_some, if_neg one_ne, if_neg one_ne, gd_nI hq (by omega), gd_nI hq (by omega), cl_nI (by omega)]
    rcases rk q hq with ⟨r1, r2⟩ | ⟨p0, n, t, hH, hA, hL, hD, DD, vo, vw, mw⟩
    · refine ⟨-3, _, _, vS, vF, _, _, ?_, ?_, Rel_found R (f := 1) (by omega)⟩
      · rw [if_pos r1, show X8_found 1 gi ga = _ from foundC (f := 1) (by omega) (by omega)]; rfl
      · rw [gd_nI hq (by omega), r2, if_neg (by decide), show X9_finds 1 mi ma = _ from findsM (f := 1) (by omega)]; rfl
    · obtain ⟨vS', vF', e, s1, s2, s3, s4⟩ := becomeC (vS := vS) (vF := vF) (q := 0) (u := 1 + q) (by omega)
      have hn := vo.1
      have en : ma 14 q = nI n := mw.2.1
      have ed : ma 15 q = hD n := mw.1
      rw [vw.1, if_neg (show ¬ nI P = 0 from nI_ne0 (by omega) (by omega)), gd_nI hq (by omega), e, bd2_some, en, if_pos (show (0 : Int32) ≤ nI n from (nI_le (Nat.zero_le n) (by omega) : nI 0 ≤ nI n)), gd_nI hq (by omega), lt_, gd_nI hq (by omega), lt_, on1 hq, ed]
      refine ⟨nI n, gi, ga, vS', vF', _, OO ma q, ?_, rfl, Rel_v R (fun r h1 h2 => OO_o (by omega)) rfl rfl ⟨P, k, e0, fun x hx => by rw [OO_o (by omega)]; exact ek x hx, ⟨n, t, hH, hA, hL, hD, DD, vo, VW_cong h7 vo.1 s1 s2 s3 vw, ?_⟩, fun q' hq' => ?_⟩⟩
      · rw [s1 2 (by omega), vw.2.2.1]
      · refine MW_cong h7 vo.1 (fun x hx => ?_) ?_ ?_ (fun x hx => ?_) (fun x hx => ?_) mw
        · rw [OO_1 (by omega) (by omega), OO_1 (by omega) (by omega), OO_1 (by omega) (by omega), OO_1 (by omega) (by omega), fb_put_in (by omega) (by omega), fb_put_in (by omega) (by omega), fb_put_in (by omega) (by omega), fb_put_in (by omega) (by omega), Nat.sub_zero]
          exact ⟨rfl, rfl, rfl, rfl⟩
        · rw [up_at, ed]
        · rw [up_ne _ _ (by omega), up_at, en]
        · rw [OO_5 (by omega) (by omega), OO_5 (by omega) (by omega), OO_5 (by omega) (by omega), fb_put_in (by omega) (by omega), fb_put_in (by omega) (by omega), fb_put_in (by omega) (by omega), Nat.sub_zero]
          exact ⟨rfl, rfl, rfl⟩
        · rw [OO_8, fb_put_in (by omega) (by omega), Nat.sub_zero]
      · exact RK_fr (rk q' hq') (s4 (1 + q') (by omega)).1 (s4 (1 + q') (by omega)).2 (fun r h1 h2 => OO_o (by omega))
  · exact ⟨-1, gi, ga, vS, vF, mi, ma, by rw [h1]; rfl, by rw [h2]; rfl, R⟩
end
