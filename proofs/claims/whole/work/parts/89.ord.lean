def tbL (T : Nat → Nat) (G : Nat → Int64) : Nat → Int64 := fun s => if s < 128 then lN (T s) else G s
theorem tbL_in {T : Nat → Nat} {G : Nat → Int64} {s : Nat} (h : s < 128) : tbL T G s = lN (T s) := if_pos h
theorem tbL_upd {T T' : Nat → Nat} {G : Nat → Int64} {s : Nat} (h : s < 128) (e : ∀ r, r ≠ s → T' r = T r) : vp_updL (tbL T G) s (lN (T' s)) = tbL T' G := by
  funext r; unfold vp_updL tbL
  by_cases q : r = s
  · rw [if_pos q, q, if_pos h]
  · rw [if_neg q, e r q]
def tL (B : Nat → Nat) (n : Nat) (G : Nat → Int64) : Nat → Int64 := fun s => if n ≤ s ∧ s < 128 then lN (B s) else G s
theorem tL_in {B : Nat → Nat} {n : Nat} {G : Nat → Int64} {s : Nat} (h : n ≤ s) (h2 : s < 128) : tL B n G s = lN (B s) := if_pos ⟨h, h2⟩
theorem tL_upd {B : Nat → Nat} {n : Nat} {G : Nat → Int64} (h : n < 128) : vp_updL (tL B (n + 1) G) n (lN (B n)) = tL B n G := by
  funext r; unfold vp_updL tL
  by_cases q : r = n
  · rw [if_pos q, q, if_pos ⟨Nat.le_refl _, h⟩]
  · rw [if_neg q]
    by_cases k : n ≤ r ∧ r < 128
    · rw [if_pos ⟨by omega, k.2⟩, if_pos k]
    · rw [if_neg (fun w => k ⟨by omega, w.2⟩), if_neg k]
theorem updL_at (f : Nat → Int64) (i : Nat) (v : Int64) : vp_updL f i v i = v := by simp [vp_updL]
theorem updL_ne (f : Nat → Int64) {i q : Nat} (v : Int64) (h : q ≠ i) : vp_updL f i v q = f q := by simp [vp_updL, h]
theorem updL_twice (f : Nat → Int64) (i : Nat) (x y : Int64) : vp_updL (vp_updL f i x) i y = vp_updL f i y := by
  funext r; unfold vp_updL; (repeat' split) <;> rfl
theorem lN_0 (n : Nat) : lN n + 0 = lN n := lN_add n 0
theorem lg_pos {n : Nat} (h : n < 2 ^ 63) : lg_cmp (lN n) 0 ≤ 0 ↔ n = 0 := by
  have e : (0 : Int64).toInt = 0 := rfl
  rw [le_nlt, lgc_gt, Int64.lt_iff_toInt_lt, lN_I h, e]
  omega
section
variable {P n : Nat} {k t l h a : Nat → Int32} {d : Int32} {vS : Nat → Nat → Int32} {vF : Nat → Nat → Nat → Int32} {D : Nat → Nat} {mi : Nat → Int32} {ma : Nat → Nat → Int32} {mb : Nat → Nat → Int64}
theorem mayComeM (m : MV P k t l h a d mi ma) (o : OKV P k t h a D) {x s : Nat} (hx : x < P) (hs : s < 128) : X9_mayCome ma (nI x) (nI s) = some (if cfb P h D x s then 1 else 0) := by
  have h7 := o.1
  rw [X9_mayCome, isStuckM m o hx, Option.bind_some, hasM s hs x (by omega), Option.bind_some, gd_nI (by omega) (by omega), gd_nI (by omega) (by omega), cl_nI (by omega), (m.2.2 x hx).2.2.2.1]
  unfold cfb
  by_cases q2 : D x = 0
  · simp [q2]
  · cases q3 : s.testBit x with
    | true => simp [q2]
    | false =>
      rcases o.2.2.2.1 x hx with ⟨h1, h2⟩ | ⟨h1, h2⟩ | ⟨y, hy, h1, h2, h3⟩
      · omega
      · rw [h1]; simp [hx, q2]
      · have n1 : ¬ nI y = 9 := (nI_ne9 (by omega)).2
        rw [h1, if_neg n1, hasM s hs y (by omega), Option.bind_some, cl_nI (by omega)]
        cases s.testBit y <;> simp [hx, q2, n1]
theorem smN_P (h7 : P ≤ 7) (s : Nat) (B : Nat → Nat) : smN (fun z => if cfb P h D z s then B z else 0) P = smN (fun z => if cfb P h D z s then B z else 0) 7 := by
  obtain ⟨e, he⟩ : ∃ e, 7 = P + e := ⟨7 - P, by omega⟩
  rw [he, smN_tail (fun i hi => by rw [cfb_out hi]; rfl)]
theorem stuck_self : ∀ s, s < 128 → s &&& (127 ^^^ s) = 0 := by decide +kernel
theorem fb30 (m : MV P k t l h a d mi ma) (o : OKV P k t h a D) (G : Nat → Int64) {n : Nat} (hn : n < 128) (mb : Nat → Nat → Int64) (k8 : Int32 → Int32 → (Nat → Nat → Int64) → Option (Nat → Nat → Int64)) :
    X9_findBehind_30 mi ma k8 500 (nI (bset (stk D) P)) (nI n) 0 (va_up mb 0 (vp_updL (tL (BH (cfb P h D) (bset (stk D) P)) (n + 1) G) n (lN (one_ (n = bset (stk D) P))))) = k8 (nI (bset (stk D) P)) (nI n + -1) (va_up mb 0 (tL (BH (cfb P h D) (bset (stk D) P)) n G)) := by
  have h7 := o.1
  have hc := cfb_Cf P h D
  have lS := bset_lt7 (p := stk D) h7
  by_cases sub : n &&& (127 ^^^ bset (stk D) P) = 0
  · have key : ∀ q z f, z + q = P → q < f → X9_findBehind_30 mi ma k8 f (nI (bset (stk D) P)) (nI n) (nI z) (va_up mb 0 (vp_updL (tL (BH (cfb P h D) (bset (stk D) P)) (n + 1) G) n (lN (one_ (n = bset (stk D) P) + smN (fun z => if cfb P h D z n then BH (cfb P h D) (bset (stk D) P) (n ||| 2 ^ z) else 0) z)))) = k8 (nI (bset (stk D) P)) (nI n + -1) (va_up mb 0 (tL (BH (cfb P h D) (bset (stk D) P)) n G)) := by
      intro q
      induction q with
      | zero =>
        intro z f g1 g2
        obtain ⟨f, rfl⟩ : ∃ z, f = z + 1 := ⟨f - 1, by omega⟩
        have : z = P := by omega
        subst this
        rw [X9_findBehind_30, m.1, if_pos (nI_le (Nat.le_refl _) (by omega)), smN_P h7, ← BH_eq hc hn, tL_upd hn]
      | succ q ih =>
        intro z f g1 g2
        obtain ⟨f, rfl⟩ : ∃ z, f = z + 1 := ⟨f - 1, by omega⟩
        have hz : z < P := by omega
        have e := ih (z + 1) f (by omega) (by omega)
        rw [smN] at e
        rw [X9_findBehind_30, m.1, if_neg (nI_ge hz (by omega)), if_pos ((sub_bit _ lS n hn).mpr sub), gd_nI hn (by omega), mayComeM m o hz hn, Option.bind_some, nI_1, or_bit n hn z (by omega)]
        by_cases c : cfb P h D z n = true
        · have lt := or_lt7 hn (show z < 7 by omega)
          have hb := hc z n (by omega) c
          have ad := or_add n hn z (by omega) hb
          have p2 := Nat.two_pow_pos z
          rw [if_pos c] at e ⊢
          rw [if_neg one_ne, gd_nI lt (by omega), gd_nI hn (by omega), lt_, cl_nI (by omega), cl_nI (by omega), up_at, updL_at, updL_ne _ _ (show n ||| 2 ^ z ≠ n by omega), tL_in (by omega) lt, lN_add, up_up, updL_twice, Nat.add_assoc]
          exact e
        · rw [if_neg c] at e ⊢
          rw [if_pos rfl, gd_nI hn (by omega), lt_, cl_nI (by omega), up_at, updL_at, lN_0, up_up, updL_twice]
          rw [Nat.add_zero] at e
          exact e
    exact key P 0 500 (by omega) (by omega)
  · have ne : ¬ n = bset (stk D) P := fun e => sub (by rw [e]; exact stuck_self _ lS)
    have z0 : BH (cfb P h D) (bset (stk D) P) n = 0 := bh_sub hc sub (stuck_self _ lS) 8 n sub
    have e0 : vp_updL (tL (BH (cfb P h D) (bset (stk D) P)) (n + 1) G) n (lN (one_ (n = bset (stk D) P))) = tL (BH (cfb P h D) (bset (stk D) P)) n G := by
      rw [one_, if_neg ne, ← tL_upd hn, z0]
    rw [e0, X9_findBehind_30, m.1]
    by_cases p0 : nI P ≤ 0
    · rw [if_pos p0]
    · rw [if_neg p0, if_neg (fun q => sub ((sub_bit _ lS n hn).mp q))]
theorem fb8 (m : MV P k t l h a d mi ma) (o : OKV P k t h a D) (G : Nat → Int64) (mb : Nat → Nat → Int64) : ∀ q f, q < 128 → q + 1 < f → X9_findBehind_8 mi ma f (nI (bset (stk D) P)) (nI q) (va_up mb 0 (tL (BH (cfb P h D) (bset (stk D) P)) (q + 1) G)) = some (va_up mb 0 (tL (BH (cfb P h D) (bset (stk D) P)) 0 G)) := by
  have lS := bset_lt7 (p := stk D) o.1
  have step : ∀ q f, q < 128 → X9_findBehind_8 mi ma (f + 1) (nI (bset (stk D) P)) (nI q) (va_up mb 0 (tL (BH (cfb P h D) (bset (stk D) P)) (q + 1) G)) = X9_findBehind_8 mi ma f (nI (bset (stk D) P)) (nI q + -1) (va_up mb 0 (tL (BH (cfb P h D) (bset (stk D) P)) q G)) := by
    intro q f hq
    rw [X9_findBehind_8, if_neg (nI_pos (by omega)), gd_nI hq (by omega), gd_nI hq (by omega), lt_, lt_, cl_nI (by omega), up_at, up_up, up_up]
    have e := fb30 m o G hq mb (X9_findBehind_8 mi ma f)
    by_cases w : q = bset (stk D) P
    · rw [one_, if_pos w] at e
      rw [if_pos (by rw [w])]; exact e
    · rw [one_, if_neg w] at e
      rw [if_neg (fun v => w ((nI_eq (by omega) (by omega)).mp v))]; exact e
  intro q
  induction q with
  | zero =>
    intro f h1 h2
    obtain ⟨f, rfl⟩ : ∃ z, f = z + 2 := ⟨f - 2, by omega⟩
    rw [step 0 (f + 1) h1, X9_findBehind_8, if_pos (by decide)]
  | succ q ih =>
    intro f h1 h2
    obtain ⟨f, rfl⟩ : ∃ z, f = z + 1 := ⟨f - 1, by omega⟩
    rw [step (q + 1) f h1, nI_m1 (by omega) (by omega), show q + 1 - 1 = q by omega]
    exact ih f (by omega) (by omega)
theorem findBehindM (m : MV P k t l h a d mi ma) (o : OKV P k t h a D) (mb : Nat → Nat → Int64) : X9_findBehind mi ma mb = some (va_up mb 0 (tL (BH (cfb P h D) (bset (stk D) P)) 0 (mb 0))) := by
  rw [X9_findBehind, stuckSetM m o, Option.bind_some]
  have e : va_up mb 0 (tL (BH (cfb P h D) (bset (stk D) P)) 128 (mb 0)) = mb := by
    have : tL (BH (cfb P h D) (bset (stk D) P)) 128 (mb 0) = mb 0 := by
      funext s; unfold tL; rw [if_neg (by omega)]
    rw [this, up_id]
  have := fb8 m o (mb 0) mb 127 500 (by omega) (by omega)
  rw [e] at this
  exact this
theorem BF63 (o : OKV P k t h a D) {s : Nat} (hs : s < 128) : BF (cfb P h D) s < 2 ^ 31 := by
  have b := BF_le (cfb_Cf P h D) (s + 1) s (by omega) hs
  have l := pcn_le7 s
  have : 7 ^ pcn s ≤ 7 ^ 7 := Nat.pow_le_pow_right (by omega) l
  omega
theorem fa41 (m : MV P k t l h a d mi ma) (o : OKV P k t h a D) (G : Nat → Int64) {n : Nat} (hn : n < 128) (mb : Nat → Nat → Int64) (k32 : Int32 → (Nat → Nat → Int64) → Option (Nat → Nat → Int64)) :
    X9_findAhead_41 mi ma k32 500 (nI n) 0 (va_up mb 1 (tbL (TT (cfb P h D) n) G)) = k32 (nI (n + 1)) (va_up mb 1 (tbL (TT (cfb P h D) (n + 1)) G)) := by
  have h7 := o.1
  have hc := cfb_Cf P h D
  have bd := BF63 o hn
  have en := TT_BF hc (show n ≤ 128 by omega)
  by_cases z0 : TT (cfb P h D) n n = 0
  · have e0 : TT (cfb P h D) (n + 1) = TT (cfb P h D) n := by
      funext s
      show Tz (cfb P h D) (TT (cfb P h D) n) n 7 s = _
      unfold Tz
      rw [smN_zero 7 (fun w hw => by rw [z0]; split <;> rfl)]; rfl
    rw [e0, X9_findAhead_41, m.1, gd_nI hn (by omega), cl_nI (by omega), up_at, tbL_in hn, if_pos ((lg_pos (by omega)).mpr z0), nI_1]
    split <;> rfl
  · have key : ∀ q z f, z + q = P → q < f → X9_findAhead_41 mi ma k32 f (nI n) (nI z) (va_up mb 1 (tbL (Tz (cfb P h D) (TT (cfb P h D) n) n z) G)) = k32 (nI (n + 1)) (va_up mb 1 (tbL (TT (cfb P h D) (n + 1)) G)) := by
      intro q
      induction q with
      | zero =>
        intro z f g1 g2
        obtain ⟨f, rfl⟩ : ∃ z, f = z + 1 := ⟨f - 1, by omega⟩
        have : z = P := by omega
        subst this
        have e7 : Tz (cfb z h D) (TT (cfb z h D) n) n z = TT (cfb z h D) (n + 1) := by
          funext s
          show _ = Tz (cfb z h D) (TT (cfb z h D) n) n 7 s
          unfold Tz
          obtain ⟨e, he⟩ : ∃ e, 7 = z + e := ⟨7 - z, by omega⟩
          rw [he, smN_tail (fun i hi => by rw [cfb_out hi, if_neg (fun w => absurd w.1 (by decide))])]
        rw [X9_findAhead_41, m.1, if_pos (nI_le (Nat.le_refl _) (by omega)), nI_1, e7]
      | succ q ih =>
        intro z f g1 g2
        obtain ⟨f, rfl⟩ : ∃ z, f = z + 1 := ⟨f - 1, by omega⟩
        have hz : z < P := by omega
        have e := ih (z + 1) f (by omega) (by omega)
        rw [X9_findAhead_41, m.1, if_neg (nI_ge hz (by omega)), gd_nI hn (by omega), cl_nI (by omega), up_at, tbL_in hn, Tz_n hc hn (by omega) (Nat.le_refl _), if_neg (fun w => z0 ((lg_pos (by omega)).mp w)), mayComeM m o hz hn, Option.bind_some, nI_1, or_bit n hn z (by omega)]
        by_cases c : cfb P h D z n = true
        · have lt := or_lt7 hn (show z < 7 by omega)
          rw [if_pos c, if_neg one_ne, gd_nI lt (by omega), gd_nI hn (by omega), gd_nI lt (by omega), lt_, cl_nI (by omega), tbL_in lt, lN_add, up_up]
          have e3 : Tz (cfb P h D) (TT (cfb P h D) n) n z (n ||| 2 ^ z) + TT (cfb P h D) n n = Tz (cfb P h D) (TT (cfb P h D) n) n (z + 1) (n ||| 2 ^ z) := by
            rw [Tz_s, if_pos ⟨c, rfl⟩]
          rw [e3, tbL_upd lt (fun r hr => by rw [Tz_s, if_neg (fun w => hr w.2.symm), Nat.add_zero])]
          exact e
        · rw [if_neg c, if_pos rfl]
          have e3 : Tz (cfb P h D) (TT (cfb P h D) n) n (z + 1) = Tz (cfb P h D) (TT (cfb P h D) n) n z := by
            funext r; rw [Tz_s, if_neg (fun w => c w.1), Nat.add_zero]
          rw [e3] at e
          exact e
    have := key P 0 500 (by omega) (by omega)
    have e0 : Tz (cfb P h D) (TT (cfb P h D) n) n 0 = TT (cfb P h D) n := by funext r; unfold Tz; rw [smN]; omega
    rw [e0] at this
    exact this
theorem findAheadM (m : MV P k t l h a d mi ma) (o : OKV P k t h a D) (mb : Nat → Nat → Int64) : X9_findAhead mi ma mb = some (va_up mb 1 (tbL (BF (cfb P h D)) (mb 1))) := by
  have k32 : ∀ q n f, n + q = 128 → q < f → X9_findAhead_32 mi ma f (nI n) (va_up mb 1 (tbL (TT (cfb P h D) n) (mb 1))) = some (va_up mb 1 (tbL (BF (cfb P h D)) (mb 1))) := by
    intro q
    induction q with
    | zero =>
      intro n f g1 g2
      obtain ⟨f, rfl⟩ : ∃ z, f = z + 1 := ⟨f - 1, by omega⟩
      have : n = 128 := by omega
      subst this
      rw [X9_findAhead_32, if_pos (show (128 : Int32) ≤ nI 128 by decide)]
      rfl
    | succ q ih =>
      intro n f g1 g2
      obtain ⟨f, rfl⟩ : ∃ z, f = z + 1 := ⟨f - 1, by omega⟩
      rw [X9_findAhead_32, if_neg (show ¬ (128 : Int32) ≤ nI n from (nI_ge (show n < 128 by omega) (by omega) : ¬ nI 128 ≤ nI n)), fa41 m o (mb 1) (by omega)]
      exact ih (n + 1) f (by omega) (by omega)
  have k2 : ∀ q n f, n + q = 128 → q < f → X9_findAhead_2 mi ma f (nI n) (va_up mb 1 (fun s => if s < n then lN (one_ (s = 0)) else mb 1 s)) = some (va_up mb 1 (tbL (BF (cfb P h D)) (mb 1))) := by
    intro q
    induction q with
    | zero =>
      intro n f g1 g2
      obtain ⟨f, rfl⟩ : ∃ z, f = z + 1 := ⟨f - 1, by omega⟩
      have : n = 128 := by omega
      subst this
      rw [X9_findAhead_2, if_pos (show (128 : Int32) ≤ nI 128 by decide)]
      exact k32 128 0 500 (by omega) (by omega)
    | succ q ih =>
      intro n f g1 g2
      obtain ⟨f, rfl⟩ : ∃ z, f = z + 1 := ⟨f - 1, by omega⟩
      have hn : n < 128 := by omega
      have e := ih (n + 1) f (by omega) (by omega)
      have eu : vp_updL (fun s => if s < n then lN (one_ (s = 0)) else mb 1 s) n (lN (one_ (n = 0))) = (fun s => if s < n + 1 then lN (one_ (s = 0)) else mb 1 s) := by
        funext s; unfold vp_updL
        by_cases w : s = n
        · subst w; rw [if_pos rfl, if_pos (by omega)]
        · rw [if_neg w]
          show (if s < n then lN (one_ (s = 0)) else mb 1 s) = _
          by_cases w2 : s < n
          · rw [if_pos w2, if_pos (by omega)]
          · rw [if_neg w2, if_neg (by omega)]
      rw [X9_findAhead_2, if_neg (show ¬ (128 : Int32) ≤ nI n from (nI_ge hn (by omega) : ¬ nI 128 ≤ nI n)), gd_nI hn (by omega), gd_nI hn (by omega), lt_, lt_, cl_nI (by omega), up_at, up_up, up_up, nI_1]
      rw [← eu] at e
      by_cases w : n = 0
      · rw [one_, if_pos w] at e
        rw [if_pos (by rw [w]; rfl)]; exact e
      · rw [one_, if_neg w] at e
        rw [if_neg (nI_ne0 (by omega) (by omega))]; exact e
  rw [X9_findAhead]
  have := k2 128 0 500 (by omega) (by omega)
  have e0 : va_up mb 1 (fun s => if s < 0 then lN (one_ (s = 0)) else mb 1 s) = mb := by
    have : (fun s => if s < 0 then lN (one_ (s = 0)) else mb 1 s) = mb 1 := by funext s; rw [if_neg (by omega)]
    rw [this, up_id]
  rw [e0] at this
  exact this
end
