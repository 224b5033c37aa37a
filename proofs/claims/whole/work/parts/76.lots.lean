section
variable {P n : Nat} {k t l h a l' h' a' : Nat → Int32} {d d' : Int32} {vS vS' : Nat → Nat → Int32} {vF vF' : Nat → Nat → Nat → Int32} {D D' : Nat → Nat} {mi mi' : Nat → Int32} {ma ma' : Nat → Nat → Int32}
variable {gi : Nat → Int32} {gl : Nat → Int64} {ga : Nat → Nat → Int32} {sN : Nat → Int32} {sF : Nat → Nat → Int32} {ml : Nat → Int64}
theorem touch8 (c : CV P k t l h a d vS vF) (o : OKV P k t h a D) (e2 : vS 0 2 = nI n) (hn : n < 60) {i : Nat} (hi : i < P) (hd : D i = 0) {y z : Int32} (hy : y = 0 ∨ y = 1) (hs : ¬ (y = 0 ∧ IA (k i) 1 = true)) (hz : z = 9 ∨ ∃ u, u < P ∧ z = nI u ∧ D u ≠ 0) :
    X8_touch (nI i) y z vS vF = bd2 (X7_doDeed 0 (nI i) y z vS vF) (fun a b => some (1, a, b)) := by
  have h7 := o.1
  have hold : X7_isHold vS z = some 1 := by
    rw [X7_isHold]
    rcases hz with rfl | ⟨u, hu, rfl, -⟩
    · rw [if_pos rfl]
    · rw [if_neg (nI_ne9 (by omega)).2, isPersonC1 c.1 h7 hu]; rfl
  have stk1 : X7_isSticky vS vF z = some 1 := by
    rw [X7_isSticky]
    rcases hz with rfl | ⟨u, hu, rfl, du⟩
    · rw [if_pos rfl]
    · rw [if_neg (nI_ne9 (by omega)).2, isStuckC c o hu, if_neg du]; rfl
  have ne : ¬ nI i = z := by
    rcases hz with rfl | ⟨u, hu, rfl, du⟩
    · exact (nI_ne9 (by omega)).2
    · intro w
      have := (nI_eq (by omega) (by omega)).mp w
      subst this; exact du hd
  rw [X8_touch, isPersonC1 c.1 h7 hi, Option.bind_some, if_neg one_ne, show (if y = 0 then X8_touch_20 (nI i) y z vS vF else if y = 1 then X8_touch_20 (nI i) y z vS vF else some (-1, vS, vF)) = X8_touch_20 (nI i) y z vS vF by rcases hy with rfl | rfl <;> rfl, X8_touch_20, hold, Option.bind_some, if_neg one_ne, if_neg ne, isStuckC c o hi, Option.bind_some, if_pos hd, if_pos rfl, stk1, Option.bind_some, if_neg one_ne, fullC e2 (by omega), Option.bind_some, if_neg (show ¬ n = 60 by omega), if_pos rfl, sticksByC c o hi, Option.bind_some, if_neg hs, if_neg one_ne]
theorem one_touch (R : Rel gi gl ga vS vF sN sF mi ml ma) (c : CV P k t l h a d vS vF) (m : MV P k t l h a d mi ma) (o : OKV P k t h a D) (e2 : vS 0 2 = nI n) (hn : n < 60) {b : Nat} (hb : b < TW P k D) :
    ∃ vS' vF' mi' ma', X7_doTouch (nI b) vS vF = some (vS', vF') ∧ X9_touchAt (nI b) mi ma = some (mi', ma') ∧ Rel gi gl ga vS' vF' sN sF mi' ml ma' ∧ vS' 0 2 = nI (n + 1) := by
  have h7 := o.1
  have hT8 : cnt (stk D) P + 1 ≤ 8 := by have := cnt_le (stk D) P; omega
  have hP0 : P ≠ 0 := fun z => by subst z; rw [TW, smN] at hb; omega
  have hsm : smN (hnd k D) P ≤ P * 2 := smN_le P (fun x _ => hnd2 k D x)
  have hTW : TW P k D ≤ 14 * 8 := by
    unfold TW
    exact Nat.mul_le_mul (by omega) hT8
  obtain ⟨⟨i, g, e⟩, hz⟩ := sel_some (k := k) (D := D) (cnt (stk D) P + 1) P 0 b (by simpa [TW] using hb)
  obtain ⟨hi, hd, hg, hs, he⟩ := sel_ok (k := k) (D := D) P (cnt (stk D) P + 1) (by omega) P 0 b i g e (by omega) hz
  have hgI : nI g = 0 ∨ nI g = 1 := by rcases hg with rfl | rfl; exact Or.inl rfl; exact Or.inr rfl
  have hsI : ¬ (nI g = 0 ∧ IA (k i) 1 = true) := fun w => hs ⟨by
    rcases hg with rfl | rfl
    · rfl
    · exact absurd w.1 one_ne, w.2⟩
  have htg := tgA_ok (D := D) P P 0 e (by omega)
  have t8 := touch8 c o e2 hn hi hd hgI hsI htg
  obtain ⟨r, vS', vF', mi', ma', s1, s2, R'⟩ := st_touch R (nI i) (nI g) (tgA D P 0 e)
  have hdeed : ∃ vS1 vF1, X7_doDeed 0 (nI i) (nI g) (tgA D P 0 e) vS vF = some (vS1, vF1) ∧ vS1 0 2 = nI (n + 1) := by
    obtain ⟨P', k', e0', ek', ⟨n', t', hH', hA', hL', hD', DD', vo', vw', mw'⟩, rk'⟩ := R.2.2.2
    have h7' := (vo'.2 n' (Nat.le_refl _)).1
    have hn' := vo'.1
    have eP : P' = P := (nI_eq (by omega) (by omega)).mp (e0'.symm.trans m.1)
    have en : n' = n := (nI_eq (by omega) (by omega)).mp (vw'.2.2.1.symm.trans e2)
    subst eP; subst en
    obtain ⟨vS1, vF1, d1, d2, -⟩ := doDeedC (s := 0) (w := nI i) (hh := nI g) (y := tgA D P' 0 e) (h' := fun x => if x = i then tgA D P' 0 e else hH' n' x) (a' := fun x => if x = i then nI g else hA' n' x) (l' := hL' n') (d' := hD' n') h7 hn vw' (Or.inr (Or.inr ⟨i, hi, rfl, rfl, rfl, fun w hw => ⟨rfl, rfl, rfl⟩⟩))
    exact ⟨vS1, vF1, d1, d2.2.2.1⟩
  obtain ⟨vS1, vF1, d1, d2⟩ := hdeed
  rw [t8, d1, bd2_some] at s1
  injection s1 with s1
  injection s1 with s1 s3
  injection s3 with s3 s4
  subst s3; subst s4
  refine ⟨vS1, vF1, mi', ma', ?_, ?_, R', d2⟩
  · have := doTouchC c o (T := cnt (stk D) P + 1) (by omega) hT8 P 0 b 500 (by omega) (by omega) (by omega)
    rw [hz] at this
    rw [X7_doTouch, stuckCountC c o, Option.bind_some, nI_1]
    exact this.trans d1
  · obtain ⟨q, hq⟩ : ∃ q, P = q + 1 := ⟨P - 1, by omega⟩
    have := touchAtM m o (T := cnt (stk D) P + 1) (by omega) hT8 q 0 b 500 (by omega) (by omega) (by omega) (by rw [← hq]; simpa [TW] using hb)
    rw [← hq, hz] at this
    have fin : X9_touchAt_43 500 (nI b) (nI (cnt (stk D) P + 1)) 0 (nI (hnd k D 0)) mi ma = some (mi', ma') := by
      refine Eq.trans this ?_
      show bd3 (X9_touch (nI i) (nI g) (tgA D P 0 e) mi ma) (fun _ mi' ma' => some (mi', ma')) = _
      rw [s2]; rfl
    rw [X9_touchAt, stuckSetM m o, Option.bind_some, bitsStuckM o, Option.bind_some, nI_1, show X9_isStuck ma 0 = _ from isStuckM m o (x := 0) (by omega), Option.bind_some, show X9_sticks ma 0 0 = _ from sticksM m o (x := 0) (by omega) (Or.inl rfl), Option.bind_some]
    by_cases d0 : D 0 = 0
    · rw [if_pos d0, if_pos rfl]
      cases hI : IA (k 0) 1
      · have eh : hnd k D 0 = 2 := by simp [hnd, d0, hI]
        rw [eh] at fin
        rw [if_neg (show ¬ ((0 : Int32) = 0 ∧ false = true) from fun z => by cases z.2), if_neg one_ne]; exact fin
      · have eh : hnd k D 0 = 1 := by simp [hnd, d0, hI]
        rw [eh] at fin
        rw [if_pos (show (0 : Int32) = 0 ∧ true = true from ⟨rfl, rfl⟩), if_pos rfl]; exact fin
    · have eh : hnd k D 0 = 0 := by simp [hnd, d0]
      rw [eh] at fin
      rw [if_neg d0, if_neg one_ne]; exact fin
theorem lots_loop {N : Nat} (hN : N ≤ 40) : ∀ q i s f1 f2 (vS : Nat → Nat → Int32) (vF : Nat → Nat → Nat → Int32) (mi : Nat → Int32) (ma : Nat → Nat → Int32), Rel gi gl ga vS vF sN sF mi ml ma → i + q = N → q < f1 → q < f2 → s < 2 ^ 31 → (∃ n, vS 0 2 = nI n ∧ n + q ≤ 60) →
    ∃ r vS' vF' mi' ma', X8_lots_63 f1 (nI N) (lN s) (nI i) vS vF = some (r, vS', vF') ∧ X9_lots_56 f2 (nI N) (lN s) (nI i) mi ma = some (r, mi', ma') ∧ Rel gi gl ga vS' vF' sN sF mi' ml ma' := by
  intro q
  induction q with
  | zero =>
    intro i s f1 f2 vS vF mi ma R e h1 h2 hs _
    obtain ⟨f1, rfl⟩ : ∃ z, f1 = z + 1 := ⟨f1 - 1, by omega⟩
    obtain ⟨f2, rfl⟩ : ∃ z, f2 = z + 1 := ⟨f2 - 1, by omega⟩
    have : i = N := by omega
    subst this
    exact ⟨nI i, vS, vF, mi, ma, by rw [X8_lots_63, if_pos (nI_le (Nat.le_refl _) (by omega))], by rw [X9_lots_56, if_pos (nI_le (Nat.le_refl _) (by omega))], R⟩
  | succ q ih =>
    intro i s f1 f2 vS vF mi ma R e h1 h2 hs hn
    obtain ⟨f1, rfl⟩ : ∃ z, f1 = z + 1 := ⟨f1 - 1, by omega⟩
    obtain ⟨f2, rfl⟩ : ∃ z, f2 = z + 1 := ⟨f2 - 1, by omega⟩
    obtain ⟨n, hn2, hnq⟩ := hn
    obtain ⟨P, k, t, l, h, a, d, D, c, m, o, -⟩ := R.2.2.2.view
    have h7 := o.1
    have hT8 : cnt (stk D) P + 1 ≤ 8 := by have := cnt_le (stk D) P; omega
    have hsm : smN (hnd k D) P ≤ P * 2 := smN_le P (fun x _ => hnd2 k D x)
    have hTW : TW P k D ≤ 14 * 8 := by
      unfold TW
      exact Nat.mul_le_mul (by omega) hT8
    rw [X8_lots_63, X9_lots_56, if_neg (nI_ge (by omega) (by omega)), if_neg (nI_ge (by omega) (by omega)), touchesC c o, waysM m o, Option.bind_some, Option.bind_some]
    by_cases t0 : TW P k D = 0
    · exact ⟨nI i, vS, vF, mi, ma, by rw [t0]; rfl, by rw [t0]; rfl, R⟩
    · rw [if_pos (show (0 : Int32) < nI (TW P k D) from (nI_lt (show 0 < TW P k D by omega) (by omega) : nI 0 < _)), if_neg (show ¬ nI (TW P k D) ≤ 0 from (nI_ge (show 0 < TW P k D by omega) (by omega) : ¬ _ ≤ nI 0)), gn_no (by decide), gn_no (by decide), lt_, lt_, Option.bind_some]
      have e1 : lN s * (48271 : Int64) - lN s * (48271 : Int64) / (2147483647 : Int64) * (2147483647 : Int64) = lN (s * 48271 % 2147483647) := by
        have := lN_rem (a := s * 48271) (d := 2147483647) (by omega) (by omega) (by omega)
        rw [← lN_mul] at this; exact this
      have hlt : s * 48271 % 2147483647 < 2147483647 := Nat.mod_lt _ (by omega)
      rw [e1]
      generalize s * 48271 % 2147483647 = s2 at hlt
      have e2 : (lN s2 - lN s2 / (nI (TW P k D)).toInt64 * (nI (TW P k D)).toInt64).toInt32 = nI (s2 % TW P k D) := by
        rw [nI_L (by omega), lN_rem (by omega) (by omega) (by omega), lN_i]
      have nz : ¬ (nI (TW P k D)).toInt64 = 0 := by
        rw [nI_L (by omega)]
        intro w
        have := (lN_eq (a := TW P k D) (b := 0) (by omega) (by omega)).mp w
        omega
      rw [gn_no nz, gn_no nz, e2]
      obtain ⟨vS', vF', mi', ma', g1, g2, R', g3⟩ := one_touch R c m o hn2 (by omega) (Nat.mod_lt s2 (show 0 < TW P k D by omega))
      rw [g1, g2, bd2_some, bd2_some, nI_1]
      exact ih (i + 1) s2 f1 f2 vS' vF' mi' ma' R' (by omega) (by omega) (by omega) (by omega) ⟨n + 1, g3, by omega⟩
theorem st_lots (R : Rel gi gl ga vS vF sN sF mi ml ma) (x y : Int32) : ∃ r vS' vF' mi' ma', X8_lots x y vS vF = some (r, vS', vF') ∧ X9_lots x y mi ma = some (r, mi', ma') ∧ Rel gi gl ga vS' vF' sN sF mi' ml ma' := by
  obtain ⟨P, k, e0, ek, ⟨n, t, hH, hA, hL, hD, DD, vo, vw, mw⟩, rk⟩ := R.2.2.2
  have h7 := (vo.2 n (Nat.le_refl _)).1
  have hn := vo.1
  rw [X8_lots, X9_lots, inI _ 1 40 1 40 rfl rfl, Option.bind_some, inI _ 1 2147483646 1 2147483646 rfl rfl, Option.bind_some, vw.1, e0, vw.2.2.1, mw.2.1]
  have x1 : x < 1 ↔ x.toInt < 1 := Int32.lt_iff_toInt_lt
  have x4 : 40 < x ↔ 40 < x.toInt := Int32.lt_iff_toInt_lt
  have y1 : y < 1 ↔ y.toInt < 1 := Int32.lt_iff_toInt_lt
  have y2 : lg_cmp y.toInt64 2147483647 < 0 ↔ y.toInt < 2147483647 := by
    rw [lgc_lt, Int64.lt_iff_toInt_lt, ti64]; rfl
  by_cases hx : 1 ≤ x.toInt ∧ x.toInt ≤ 40
  · rw [if_pos hx, if_neg (by rw [x1]; omega), if_neg (by rw [x4]; omega), if_neg one_ne]
    by_cases hy : 1 ≤ y.toInt ∧ y.toInt ≤ 2147483646
    · rw [if_pos hy, if_neg (by rw [y1]; omega), if_pos (by rw [y2]; omega), if_neg one_ne]
      by_cases p0 : nI P = 0
      · exact ⟨-4, vS, vF, mi, ma, by rw [if_pos p0], by rw [if_pos p0], R⟩
      · rw [if_neg p0, if_neg p0]
        obtain ⟨N, hN, rfl⟩ := toI_ex (x := x) (N := 41) (by omega) (by omega)
        obtain ⟨s, hs, rfl⟩ := toI_ex (x := y) (N := 2147483647) (by omega) (by omega)
        rw [nI_add]
        by_cases hf : n + N ≤ 60
        · rw [if_pos (show nI (n + N) ≤ 60 from (nI_le hf (by omega) : _ ≤ nI 60)), if_pos (show nI (n + N) ≤ 60 from (nI_le hf (by omega) : _ ≤ nI 60)), nI_L (by omega)]
          exact lots_loop (by omega) N 0 s 500 500 vS vF mi ma R (by omega) (by omega) (by omega) (by omega) ⟨n, vw.2.2.1, hf⟩
        · have nf : ¬ nI (n + N) ≤ (60 : Int32) := (nI_ge (show 60 < n + N by omega) (by omega) : ¬ _ ≤ nI 60)
          exact ⟨-2, vS, vF, mi, ma, by rw [if_neg nf], by rw [if_neg nf], R⟩
    · rw [if_neg hy, if_pos rfl]
      refine ⟨-1, vS, vF, mi, ma, ?_, rfl, R⟩
      split
      · rfl
      · rename_i q; rw [y1] at q; rw [if_neg (by rw [y2]; omega)]
  · rw [if_neg hx, if_pos rfl]
    refine ⟨-1, vS, vF, mi, ma, ?_, rfl, R⟩
    split
    · rfl
    · rename_i q; rw [x1] at q; rw [if_pos (by rw [x4]; omega)]
end
