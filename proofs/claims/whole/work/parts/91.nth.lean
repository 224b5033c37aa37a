theorem pc_le : ∀ s, s < 128 → ∀ c, c < 128 → c &&& (127 ^^^ s) = 0 → pcn c ≤ pcn s := by decide +kernel
theorem sub_or {s S x : Nat} (hx : x < 7) (h : s &&& (127 ^^^ S) = 0) (hS : S.testBit x = true) : (s ||| 2 ^ x) &&& (127 ^^^ S) = 0 := by
  apply Nat.eq_of_testBit_eq
  intro i
  have e := congrArg (fun v => v.testBit i) h
  simp only [Nat.testBit_and, Nat.testBit_or, Nat.testBit_xor, Nat.testBit_two_pow, Nat.zero_testBit] at e ⊢
  by_cases q : x = i
  · subst q
    have : ∀ x, x < 7 → (127 : Nat).testBit x = true := by decide
    rw [hS, this x hx]; simp
  · simpa [q] using e
theorem lg_lt {a b : Nat} (ha : a < 2 ^ 63) (hb : b < 2 ^ 63) : lg_cmp (lN a) (lN b) < 0 ↔ a < b := by
  rw [lgc_lt, Int64.lt_iff_toInt_lt, lN_I ha, lN_I hb]; omega
section
variable {P n : Nat} {k t l h a : Nat → Int32} {d : Int32} {vS : Nat → Nat → Int32} {vF : Nat → Nat → Nat → Int32} {D : Nat → Nat} {mi : Nat → Int32} {ma : Nat → Nat → Int32} {mb : Nat → Nat → Int64}
variable {gi : Nat → Int32} {gl : Nat → Int64} {ga ga' : Nat → Nat → Int32} {sN : Nat → Int32} {sF : Nat → Nat → Int32} {ml : Nat → Int64}
theorem ts_front (s : Nat) (B : Nat → Nat) (z q : Nat) : smN (fun j => if cfb P h D (z + j) s then B (z + j) else 0) (q + 1) = (if cfb P h D z s then B z else 0) + smN (fun j => if cfb P h D (z + 1 + j) s then B (z + 1 + j) else 0) q := by
  rw [smN_front]
  congr 1
  exact sN_cg q (fun j _ => by rw [show z + (j + 1) = z + 1 + j by omega])
theorem pickOne (m : MV P k t l h a d mi ma) (o : OKV P k t h a D) (e2 : gi 2 = nI (bset (stk D) P)) (L : LK P h D ga ga') (M : ∀ s, s < 128 → mb 0 s = lN (BH (cfb P h D) (bset (stk D) P) s)) {s r kk j : Nat} (hs : s < 128) (hr : r < 6) (hk : kk < 40) (pl v3 : Int32)
    (k14 : Int32 → Int32 → Int32 → (Nat → Int32) → (Nat → Nat → Int32) → Option ((Nat → Int32) × (Nat → Nat → Int32))) (k61 : Int32 → Int32 → Int64 → Int32 → Int32 → (Nat → Int32) → (Nat → Nat → Int32) → (Nat → Nat → Int64) → Option (Int32 × (Nat → Int32) × (Nat → Nat → Int32) × (Nat → Nat → Int64))) (sN : Nat → Int32) (sF : Nat → Nat → Int32) :
    ∀ q z left f1 f2, z + q = 7 → q < f1 → q < f2 → left < 2 ^ 31 → left < smN (fun j => if cfb P h D (z + j) s then BH (cfb P h D) (bset (stk D) P) (s ||| 2 ^ (z + j)) else 0) q →
      ∃ x left', x < P ∧ cfb P h D x s = true ∧ left' < BH (cfb P h D) (bset (stk D) P) (s ||| 2 ^ x) ∧ left' < 2 ^ 31 ∧
        X3_write_24 gi ga' j k14 f1 (nI s) (nI left) pl (nI z) sN sF = bd2 (X6_add j (nI x) sN sF) (fun sN' sF' => k14 (nI (s ||| 2 ^ x)) (nI left') (pl + 1) sN' sF') ∧
        X9_nth_70 k61 f2 (nI r) v3 (lN left) (nI s) (nI kk) (nI z) mi ma mb = k61 (nI r) v3 (lN left') (nI (s ||| 2 ^ x)) (nI (kk + 1)) mi (va_up ma 11 (upd (ma 11) (40 * r + kk) (nI x))) mb := by
  have h7 := o.1
  intro q
  induction q with
  | zero => intro z left f1 f2 _ _ _ _ h; exact absurd h (Nat.not_lt_zero _)
  | succ q ih =>
    intro z left f1 f2 g1 g2 g3 g31 g4
    obtain ⟨f1, rfl⟩ : ∃ z, f1 = z + 1 := ⟨f1 - 1, by omega⟩
    obtain ⟨f2, rfl⟩ : ∃ z, f2 = z + 1 := ⟨f2 - 1, by omega⟩
    have hz : z < 7 := by omega
    have hzP : z < P := by
      rcases Nat.lt_or_ge z P with w | w
      · exact w
      · rw [smN_zero (q + 1) (fun j _ => by rw [cfb_out (show P ≤ z + j by omega)]; rfl)] at g4
        omega
    rw [ts_front s (fun z => BH (cfb P h D) (bset (stk D) P) (s ||| 2 ^ z))] at g4
    have ng : ¬ (7 : Int32) ≤ nI z := (nI_ge hz (by omega) : ¬ nI 7 ≤ nI z)
    have lt := or_lt7 hs hz
    have b31 := BH31 (P := P) (h := h) (D := D) lt
    rw [X3_write_24, if_neg ng, canFollowC o e2 L.1 hz hs, Option.bind_some, withC s hs z hz, Option.bind_some, gd_nI lt (by omega), cl_nI (by omega), L.2.2.1 _ lt, nI_1, X9_nth_70, mayComeM m o hzP hs, Option.bind_some, or_bit s hs z hz, gd_nI lt (by omega), cl_nI (by omega), M _ lt]
    by_cases c : cfb P h D z s = true
    · rw [if_pos c] at g4
      rw [if_pos c, if_neg one_ne, if_neg one_ne]
      by_cases w : left < BH (cfb P h D) (bset (stk D) P) (s ||| 2 ^ z)
      · refine ⟨z, left, hzP, c, w, g31, ?_, ?_⟩
        · rw [if_neg (nI_ge w b31)]; rfl
        · rw [if_pos ((lg_lt (by omega) (by omega)).mpr w), show (40 : Int32) * nI r + nI kk = nI (40 * r + kk) from mixN 40 r kk, gd_nI (by omega) (by omega), lt_, cl_nI (by omega), nI_1]
      · obtain ⟨x, left', w1, w2, w3, w4, w5, w6⟩ := ih (z + 1) (left - BH (cfb P h D) (bset (stk D) P) (s ||| 2 ^ z)) f1 f2 (by omega) (by omega) (by omega) (by omega) (by omega)
        refine ⟨x, left', w1, w2, w3, w4, ?_, ?_⟩
        · rw [if_pos (nI_le (by omega) (by omega)), pk_sub (by omega)]; exact w5
        · rw [if_neg (fun q => w ((lg_lt (by omega) (by omega)).mp q)), X9_nth_99, mayComeM m o hzP hs, Option.bind_some, if_pos c, if_neg one_ne, or_bit s hs z hz, gd_nI lt (by omega), lt_, cl_nI (by omega), M _ lt, lN_sub (by omega), nI_1]
          exact w6
    · rw [if_neg c, Nat.zero_add] at g4
      rw [if_neg c, if_pos rfl, if_pos rfl]
      obtain ⟨x, left', w1, w2, w3, w4, w5, w6⟩ := ih (z + 1) left f1 f2 (by omega) (by omega) (by omega) g31 g4
      refine ⟨x, left', w1, w2, w3, w4, w5, ?_⟩
      rw [X9_nth_99, mayComeM m o hzP hs, Option.bind_some, if_neg c, if_pos rfl, nI_1, show lN left - 0 = lN left from lN_sub (a := left) (b := 0) (by omega)]
      exact w6
theorem idle24 (o : OKV P k t h a D) (e2 : gi 2 = nI (bset (stk D) P)) (L : LK P h D ga ga') {j : Nat} (v pl : Int32) (k14 : Int32 → Int32 → Int32 → (Nat → Int32) → (Nat → Nat → Int32) → Option ((Nat → Int32) × (Nat → Nat → Int32))) : ∀ q z f, z + q = 7 → q < f → X3_write_24 gi ga' j k14 f (nI (bset (stk D) P)) v pl (nI z) sN sF = k14 (nI (bset (stk D) P)) v (pl + 1) sN sF := by
  have lS := bset_lt7 (p := stk D) o.1
  intro q
  induction q with
  | zero =>
    intro z f g1 g2
    obtain ⟨f, rfl⟩ : ∃ z, f = z + 1 := ⟨f - 1, by omega⟩
    have : z = 7 := by omega
    subst this
    rw [X3_write_24, if_pos (show (7 : Int32) ≤ nI 7 by decide)]
  | succ q ih =>
    intro z f g1 g2
    obtain ⟨f, rfl⟩ : ∃ z, f = z + 1 := ⟨f - 1, by omega⟩
    have hz : z < 7 := by omega
    rw [X3_write_24, if_neg (show ¬ (7 : Int32) ≤ nI z from (nI_ge hz (by omega) : ¬ nI 7 ≤ nI z)), canFollowC o e2 L.1 hz lS, Option.bind_some, cfb_S, if_pos (by rfl), nI_1]
    exact ih (z + 1) f (by omega) (by omega)
theorem idle14 (o : OKV P k t h a D) (e2 : gi 2 = nI (bset (stk D) P)) (L : LK P h D ga ga') {j : Nat} (v : Int32) : ∀ q pl f, pl + q = 7 → q < f → X3_write_14 gi ga' j f (nI (bset (stk D) P)) v (nI pl) sN sF = some (sN, sF) := by
  intro q
  induction q with
  | zero =>
    intro pl f g1 g2
    obtain ⟨f, rfl⟩ : ∃ z, f = z + 1 := ⟨f - 1, by omega⟩
    have : pl = 7 := by omega
    subst this
    rw [X3_write_14, if_pos (show (7 : Int32) ≤ nI 7 by decide)]
  | succ q ih =>
    intro pl f g1 g2
    obtain ⟨f, rfl⟩ : ∃ z, f = z + 1 := ⟨f - 1, by omega⟩
    rw [X3_write_14, if_neg (show ¬ (7 : Int32) ≤ nI pl from (nI_ge (show pl < 7 by omega) (by omega) : ¬ nI 7 ≤ nI pl)), show X3_write_24 gi ga' j (X3_write_14 gi ga' j f) 500 (nI (bset (stk D) P)) v (nI pl) 0 sN sF = _ from idle24 o e2 L v (nI pl) (X3_write_14 gi ga' j f) 7 0 500 (by omega) (by omega), nI_1]
    exact ih (pl + 1) f (by omega) (by omega)
theorem writeAll (m : MV P k t l h a d mi ma) (o : OKV P k t h a D) (e2 : gi 2 = nI (bset (stk D) P)) (L : LK P h D ga ga') (M : ∀ s, s < 128 → mb 0 s = lN (BH (cfb P h D) (bset (stk D) P) s)) {r : Nat} (hr : r < 6) :
    ∀ q s left f1 f2 (sN : Nat → Int32) (sF : Nat → Nat → Int32) (ma : Nat → Nat → Int32), MV P k t l h a d mi ma → s < 128 → s &&& (127 ^^^ bset (stk D) P) = 0 → pcn s + q = cnt (stk D) P → left < BH (cfb P h D) (bset (stk D) P) s → left < 2 ^ 31 → sN r = nI (pcn s) → 7 - pcn s < f1 → q < f2 →
      ∃ W : List Nat, W.length = q ∧ X3_write_14 gi ga' r f1 (nI s) (nI left) (nI (pcn s)) sN sF = some (va_up sN r (nI (cnt (stk D) P)), va_up sF r (wl (sF r) (pcn s) W)) ∧
        X9_nth_61 f2 (nI r) (nI (cnt (stk D) P)) (lN left) (nI s) (nI (pcn s)) mi ma mb = some (1, mi, va_up ma 11 (wl (ma 11) (40 * r + pcn s) W), mb) := by
  have h7 := o.1
  have lS := bset_lt7 (p := stk D) h7
  have c7 : cnt (stk D) P ≤ 7 := Nat.le_trans (cnt_le _ _) h7
  have pS : pcn (bset (stk D) P) = cnt (stk D) P := pcn_bset h7
  intro q
  induction q with
  | zero =>
    intro s left f1 f2 sN sF ma m hs sub hq hl l31 es g1 g2
    obtain ⟨f2, rfl⟩ : ∃ z, f2 = z + 1 := ⟨f2 - 1, by omega⟩
    have e : s = bset (stk D) P := pc_sub _ lS s hs sub (by omega)
    refine ⟨[], rfl, ?_, ?_⟩
    · rw [show cnt (stk D) P = pcn s by omega, ← es]
      show _ = some (va_up sN r (sN r), va_up sF r (sF r))
      rw [up_id, up_id, es, e]
      exact idle14 o e2 L _ (7 - pcn (bset (stk D) P)) _ f1 (by have := pcn_le7 (bset (stk D) P); omega) (by rw [← e]; omega)
    · rw [X9_nth_61, if_pos (nI_le (by omega) (by omega))]
      show _ = some ((1 : Int32), mi, va_up ma 11 (ma 11), mb)
      rw [up_id]
  | succ q ih =>
    intro s left f1 f2 sN sF ma m hs sub hq hl l31 es g1 g2
    obtain ⟨f1, rfl⟩ : ∃ z, f1 = z + 1 := ⟨f1 - 1, by omega⟩
    obtain ⟨f2, rfl⟩ : ∃ z, f2 = z + 1 := ⟨f2 - 1, by omega⟩
    have ne : ¬ s = bset (stk D) P := fun e => by rw [e] at hq; omega
    have hb := BH_eq (cfb_Cf P h D) (S := bset (stk D) P) hs
    rw [one_, if_neg ne, Nat.zero_add] at hb
    have hl2 : left < smN (fun j => if cfb P h D (0 + j) s then BH (cfb P h D) (bset (stk D) P) (s ||| 2 ^ (0 + j)) else 0) 7 := by
      rw [sN_cg 7 (g := fun z => if cfb P h D z s then BH (cfb P h D) (bset (stk D) P) (s ||| 2 ^ z) else 0) (fun j _ => by rw [Nat.zero_add])]
      rw [← hb]; exact hl
    obtain ⟨x, left', hx, c, hl', l31', w1, w2⟩ := pickOne (j := r) m o e2 L M hs hr (show pcn s < 40 by omega) (nI (pcn s)) (nI (cnt (stk D) P)) (X3_write_14 gi ga' r f1) (X9_nth_61 f2) sN sF 7 0 left 500 500 (by omega) (by omega) (by omega) l31 hl2
    have pb := pcn_bit s hs x (by omega) (cfb_Cf P h D x s (by omega) c)
    have lt := or_lt7 hs (show x < 7 by omega)
    have hS : (bset (stk D) P).testBit x = true := by rw [bset_bit]; simp [hx, stk, (cfb_P c).2]
    have m2 : MV P k t l h a d mi (va_up ma 11 (upd (ma 11) (40 * r + pcn s) (nI x))) := m
    obtain ⟨W, e0, e1, e3⟩ := ih (s ||| 2 ^ x) left' f1 f2 (va_up sN r (nI (pcn s + 1))) (va_up sF r (upd (sF r) (pcn s) (nI x))) (va_up ma 11 (upd (ma 11) (40 * r + pcn s) (nI x))) m2 lt (sub_or (by omega) sub hS) (by omega) hl' l31' (by rw [up_at, pb]) (by omega) (by omega)
    rw [pb] at e1 e3
    refine ⟨x :: W, by rw [List.length_cons, e0], ?_, ?_⟩
    · rw [X3_write_14, if_neg (show ¬ (7 : Int32) ≤ nI (pcn s) from (nI_ge (show pcn s < 7 by omega) (by omega) : ¬ nI 7 ≤ nI (pcn s))), show X3_write_24 gi ga' r (X3_write_14 gi ga' r f1) 500 (nI s) (nI left) (nI (pcn s)) 0 sN sF = _ from w1, addS hr (show pcn s < 40 by omega) es, bd2_some, nI_1, e1, up_up, up_up, up_at]
      rfl
    · rw [X9_nth_61, if_neg (nI_ge (by omega) (by omega)), show X9_nth_70 (X9_nth_61 f2) 500 (nI r) (nI (cnt (stk D) P)) (lN left) (nI s) (nI (pcn s)) 0 mi ma mb = _ from w2, e3, up_at, up_up]
      rfl
theorem st_nth (R : Rel gi gl ga vS vF sN sF mi ml ma) (mb : Nat → Nat → Int64) (x y : Int32) : ∃ r gi' ga' sN' sF' mi' ma' mb', X8_nth vS vF x y gi ga sN sF = some (r, gi', ga', sN', sF') ∧ X9_nth x y mi ma mb = some (r, mi', ma', mb') ∧ Rel gi' gl ga' vS vF sN' sF' mi' ml ma' := by
  by_cases x0 : x < 0
  · exact ⟨-1, gi, ga, sN, sF, mi, ma, mb, by rw [X8_nth, if_pos x0], by rw [X9_nth, if_pos x0], R⟩
  · rcases row_cases y with ⟨r, hr, rfl, h1, h2⟩ | ⟨h1, h2⟩
    · obtain ⟨P, k, t, l, h, a, d, D, c, m, o, -⟩ := R.2.2.2.view
      have h7 := o.1
      have c7 : cnt (stk D) P ≤ 7 := Nat.le_trans (cnt_le _ _) h7
      obtain ⟨ga', el, L⟩ := lookC c o gi ga
      have b31 := BH31 (P := P) (h := h) (D := D) (s := 0) (by omega)
      have Mb : ∀ s, s < 128 → va_up mb 0 (tL (BH (cfb P h D) (bset (stk D) P)) 0 (mb 0)) 0 s = lN (BH (cfb P h D) (bset (stk D) P) s) := fun s hs => by rw [up_at, tL_in (by omega) hs]
      obtain ⟨i, hi, rfl⟩ : ∃ i, i < 2 ^ 31 ∧ x = nI i := by
        refine ⟨x.toInt.toNat, ?_, ?_⟩
        · rw [Int32.lt_iff_toInt_lt, zI] at x0
          have := Int32.toInt_lt x
          omega
        · rw [Int32.lt_iff_toInt_lt, zI] at x0
          apply Int32.toInt_inj.mp
          have := Int32.toInt_lt x
          rw [toI_nI (by omega)]; omega
      have R2 : Rel (va_up gi 2 (nI (bset (stk D) P))) gl ga' vS vF sN sF mi ml ma := Rel_look R L.2.2.2
      by_cases w : i < BH (cfb P h D) (bset (stk D) P) 0
      · have m2 : MV P k t l h a d mi (va_up (va_up ma 10 (upd (ma 10) r (nI (cnt (stk D) P)))) 11 (fb_put (ma 11) (fun _ => 0) (40 * r) 40)) := m
        have p0 : pcn 0 = 0 := by decide
        obtain ⟨W, e0, e1, e3⟩ := writeAll (gi := va_up gi 2 (nI (bset (stk D) P))) m2 o (up_at _ _ _) L Mb hr (cnt (stk D) P) 0 i 500 500 (va_up sN r (nI 0)) (va_up sF r (fb_put (sF r) (fun _ => 0) 0 40)) _ m2 (by omega) (Nat.zero_and _) (by rw [p0]; omega) w hi (by rw [up_at, p0]) (by omega) (by omega)
        rw [p0] at e1 e3
        rw [up_up, up_up, up_at] at e1
        rw [up_at, up_up] at e3
        refine ⟨1, va_up gi 2 (nI (bset (stk D) P)), ga', va_up sN r (nI (cnt (stk D) P)), va_up sF r (wl (fb_put (sF r) (fun _ => 0) 0 40) 0 W), mi, va_up (va_up ma 10 (upd (ma 10) r (nI (cnt (stk D) P)))) 11 (wl (fb_put (ma 11) (fun _ => 0) (40 * r) 40) (40 * r + 0) W), va_up mb 0 (tL (BH (cfb P h D) (bset (stk D) P)) 0 (mb 0)), ?_, ?_, ?_⟩
        · rw [X8_nth, if_neg x0, h1, Option.bind_some, if_neg one_ne, el, bd2_some, allC L, Option.bind_some, if_pos (nI_lt w b31), gd_nI hr (by omega), cl_nI (by omega), X3_write, show X6_layOut r 0 0 sN sF = _ from layOutC (j := r) (n := 0) (by omega) 0 sN sF, bd2_some, sL40 hr, show X3_write_14 (va_up gi 2 (nI (bset (stk D) P))) ga' r 500 0 (nI i) 0 (va_up sN r (nI 0)) (va_up sF r (fb_put (sF r) (fun _ => 0) 0 40)) = _ from e1, bd2_some]
        · have e00 : va_up mb 0 (tL (BH (cfb P h D) (bset (stk D) P)) 0 (mb 0)) 0 (0 : Int32).toNatClampNeg = lN (BH (cfb P h D) (bset (stk D) P) 0) := Mb 0 (by omega)
          rw [X9_nth, if_neg x0, h2, Option.bind_some, if_neg one_ne, findBehindM m o, Option.bind_some, gd_t (by decide), e00, nI_L hi, if_pos ((lg_lt (by omega) (by omega)).mpr w), stuckSetM m o, Option.bind_some, bitsStuckM o, Option.bind_some, rowM hr (by omega), bd3_some]
          exact e3
        · refine ⟨RR_set R.1 hr (Or.inr ⟨_, by omega, rfl⟩) rfl (fun i hi => ?_) (fun q hq => ?_), RT_row R.2.1 hr rfl rfl, R2.2.2.1, R.2.2.2⟩
          · show wl (fb_put (sF r) (fun _ => 0) 0 40) 0 W i = wl (fb_put (ma 11) (fun _ => 0) (40 * r) 40) (40 * r + 0) W (40 * r + i)
            refine wl_sh _ (40 * r) _ _ 0 (fun z hz => ?_) i hi
            rw [fb_put_in (by omega) (by omega), fb_put_in (by omega) (by omega)]
          · show wl (fb_put (ma 11) (fun _ => 0) (40 * r) 40) (40 * r + 0) W q = ma 11 q
            rw [wl_out _ _ _ _ (by omega), fb_put_out hq]
      · refine ⟨-3, _, _, sN, sF, _, _, va_up mb 0 (tL (BH (cfb P h D) (bset (stk D) P)) 0 (mb 0)), ?_, ?_, Rel_found (f := 4) R2 (by omega)⟩
        · rw [X8_nth, if_neg x0, h1, Option.bind_some, if_neg one_ne, el, bd2_some, allC L, Option.bind_some, if_neg (nI_nlt (by omega) (by omega)), show (4 : Int32) = nI 4 from rfl, foundC (by omega) (by omega)]; rfl
        · have e00 : va_up mb 0 (tL (BH (cfb P h D) (bset (stk D) P)) 0 (mb 0)) 0 (0 : Int32).toNatClampNeg = lN (BH (cfb P h D) (bset (stk D) P) 0) := Mb 0 (by omega)
          rw [X9_nth, if_neg x0, h2, Option.bind_some, if_neg one_ne, findBehindM m o, Option.bind_some, gd_t (by decide), e00, nI_L hi, if_neg (fun q => w ((lg_lt (by omega) (by omega)).mp q)), show (4 : Int32) = nI 4 from rfl, findsM (by omega)]; rfl
    · refine ⟨-1, gi, ga, sN, sF, mi, ma, mb, ?_, ?_, R⟩
      · rw [X8_nth, if_neg x0, h1, Option.bind_some, if_pos rfl]
      · rw [X9_nth, if_neg x0, h2, Option.bind_some, if_pos rfl]
end
