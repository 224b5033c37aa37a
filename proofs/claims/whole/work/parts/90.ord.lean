theorem lg_0 {n : Nat} (h : n < 2 ^ 63) : lg_cmp (lN n) 0 = 0 ↔ n = 0 := by
  constructor
  · intro e
    rcases Nat.eq_zero_or_pos n with q | q
    · exact q
    · have : (0 : Int32) < lg_cmp (lN n) 0 := by
        rw [lgc_gt, Int64.lt_iff_toInt_lt, lN_I h, show (0 : Int64).toInt = 0 from rfl]; omega
      rw [e] at this
      exact absurd this (by decide)
  · intro e; subst e; rfl
theorem lN_ne0 {n : Nat} (h : n < 2 ^ 63) (h0 : n ≠ 0) : ¬ lN n = 0 := fun e => h0 ((fb_lN_inj h (by omega : 0 < 2 ^ 63)).mp e)
theorem half_mod {b r : Nat} (h0 : 0 < r) (h : r < b) : 2 * (b % r) < b := by
  have m := Nat.mod_lt b h0
  rcases Nat.lt_or_ge b (2 * r) with q | q
  · have : b % r = b - r := by
      rw [Nat.mod_eq_sub_mod (by omega), Nat.mod_eq_of_lt (by omega)]
    omega
  · omega
theorem gcd_step (a b : Nat) : Nat.gcd a b = Nat.gcd b (a % b) := by
  rw [Nat.gcd_comm, Nat.gcd_rec, Nat.gcd_comm]
theorem cd_end {a b i n : Nat} (hi : i < 100) (hb : b = 0) : X8_commonDivisor_9 (n + 1) (lN a) (lN b) (nI i) = some (lN a) := by
  rw [X8_commonDivisor_9, if_neg (show ¬ (100 : Int32) ≤ nI i from (nI_ge hi (by omega) : ¬ nI 100 ≤ nI i)), if_pos ((lg_0 (by omega)).mpr hb)]
theorem cd_step {a b i n : Nat} (hi : i < 100) (ha : a < 2 ^ 31) (hb : b < 2 ^ 31) (h0 : b ≠ 0) : X8_commonDivisor_9 (n + 1) (lN a) (lN b) (nI i) = X8_commonDivisor_9 n (lN b) (lN (a % b)) (nI (i + 1)) := by
  rw [X8_commonDivisor_9, if_neg (show ¬ (100 : Int32) ≤ nI i from (nI_ge hi (by omega) : ¬ nI 100 ≤ nI i)), if_neg (fun q => h0 ((lg_0 (by omega)).mp q)), gn_no (lN_ne0 (by omega) h0), lN_rem (by omega) (by omega) (by omega), nI_1]
theorem gcdC : ∀ k a b i n, b < 2 ^ k → a < 2 ^ 31 → b < 2 ^ 31 → i + 2 * k ≤ 99 → 2 * k + 1 ≤ n → X8_commonDivisor_9 n (lN a) (lN b) (nI i) = some (lN (Nat.gcd a b)) := by
  intro k
  induction k with
  | zero =>
    intro a b i n h1 h2 h3 h4 h5
    obtain ⟨n, rfl⟩ : ∃ z, n = z + 1 := ⟨n - 1, by omega⟩
    have : b = 0 := by omega
    rw [cd_end (by omega) this, this, Nat.gcd_zero_right]
  | succ k ih =>
    intro a b i n h1 h2 h3 h4 h5
    by_cases b0 : b = 0
    · obtain ⟨n, rfl⟩ : ∃ z, n = z + 1 := ⟨n - 1, by omega⟩
      rw [cd_end (by omega) b0, b0, Nat.gcd_zero_right]
    · obtain ⟨n, rfl⟩ : ∃ z, n = z + 1 + 1 := ⟨n - 2, by omega⟩
      have hm := Nat.mod_lt a (show 0 < b by omega)
      rw [cd_step (by omega) h2 h3 b0, gcd_step]
      by_cases r0 : a % b = 0
      · rw [cd_end (by omega) r0, r0, Nat.gcd_zero_right]
      · have hh := half_mod (show 0 < a % b by omega) hm
        have p := Nat.pow_succ (n := 2) (m := k)
        rw [cd_step (by omega) h3 (by omega) r0, gcd_step]
        exact ih _ _ _ _ (by omega) (by omega) (by omega) (by omega) (by omega)
theorem to_end {a b n : Nat} (v1 v3 : Int64) (ml : Nat → Int64) (ha : a < 2 ^ 31) (a0 : a ≠ 0) (hb : b = 0) : X9_tellOdds_6 (n + 1) v1 v3 (lN a) (lN b) ml = some (va_up (va_up ml 0 (v1 / lN a)) 1 (v3 / lN a)) := by
  rw [X9_tellOdds_6, if_pos ((lg_0 (by omega)).mpr hb), gn_no (lN_ne0 (by omega) a0), lt_, gn_no (lN_ne0 (by omega) a0), lt_]
theorem to_step {a b n : Nat} (v1 v3 : Int64) (ml : Nat → Int64) (ha : a < 2 ^ 31) (hb : b < 2 ^ 31) (h0 : b ≠ 0) : X9_tellOdds_6 (n + 1) v1 v3 (lN a) (lN b) ml = X9_tellOdds_6 n v1 v3 (lN b) (lN (a % b)) ml := by
  rw [X9_tellOdds_6, if_neg (fun q => h0 ((lg_0 (by omega)).mp q)), gn_no (lN_ne0 (by omega) h0), lN_rem (by omega) (by omega) (by omega)]
theorem gcdM (v1 v3 : Int64) (ml : Nat → Int64) : ∀ k a b n, b < 2 ^ k → a < 2 ^ 31 → b < 2 ^ 31 → Nat.gcd a b ≠ 0 → 2 * k + 1 ≤ n → X9_tellOdds_6 n v1 v3 (lN a) (lN b) ml = some (va_up (va_up ml 0 (v1 / lN (Nat.gcd a b))) 1 (v3 / lN (Nat.gcd a b))) := by
  intro k
  induction k with
  | zero =>
    intro a b n h1 h2 h3 h4 h5
    obtain ⟨n, rfl⟩ : ∃ z, n = z + 1 := ⟨n - 1, by omega⟩
    have : b = 0 := by omega
    rw [this, Nat.gcd_zero_right] at h4
    rw [to_end _ _ _ h2 h4 this, this, Nat.gcd_zero_right]
  | succ k ih =>
    intro a b n h1 h2 h3 h4 h5
    by_cases b0 : b = 0
    · obtain ⟨n, rfl⟩ : ∃ z, n = z + 1 := ⟨n - 1, by omega⟩
      rw [b0, Nat.gcd_zero_right] at h4
      rw [to_end _ _ _ h2 h4 b0, b0, Nat.gcd_zero_right]
    · obtain ⟨n, rfl⟩ : ∃ z, n = z + 1 + 1 := ⟨n - 2, by omega⟩
      have hm := Nat.mod_lt a (show 0 < b by omega)
      rw [to_step _ _ _ h2 h3 b0, gcd_step]
      rw [gcd_step] at h4
      by_cases r0 : a % b = 0
      · rw [to_end _ _ _ h3 b0 r0, r0, Nat.gcd_zero_right]
      · have hh := half_mod (show 0 < a % b by omega) hm
        have p := Nat.pow_succ (n := 2) (m := k)
        rw [to_step _ _ _ h3 (by omega) r0, gcd_step]
        rw [gcd_step] at h4
        exact ih _ _ _ (by omega) (by omega) (by omega) h4 (by omega)
theorem gcd_ne {a b : Nat} (hb : b ≠ 0) : Nat.gcd a b ≠ 0 := fun q => hb (Nat.eq_zero_of_gcd_eq_zero_right q)
theorem gcd_lt {a b : Nat} (hb : b ≠ 0) (h : b < 2 ^ 31) : Nat.gcd a b < 2 ^ 31 := Nat.lt_of_le_of_lt (Nat.le_of_dvd (by omega) (Nat.gcd_dvd_right a b)) h
theorem tellC {a b : Nat} (ha : a < 2 ^ 31) (hb : b < 2 ^ 31) (b0 : b ≠ 0) (gl : Nat → Int64) : X8_tellFraction (lN a) (lN b) gl = some (va_up (va_up gl 0 (lN (a / Nat.gcd a b))) 1 (lN (b / Nat.gcd a b))) := by
  have g0 := gcd_ne (a := a) b0
  have g1 := gcd_lt (a := a) b0 hb
  have hp : (0 : Int32) < lg_cmp (lN (Nat.gcd a b)) 0 := by
    rw [lgc_gt, Int64.lt_iff_toInt_lt, lN_I (by omega), show (0 : Int64).toInt = 0 from rfl]; omega
  rw [X8_tellFraction, X8_commonDivisor, show X8_commonDivisor_9 500 (lN a) (lN b) 0 = _ from gcdC 31 a b 0 500 hb ha hb (by omega) (by omega), Option.bind_some, if_pos hp, gn_no (lN_ne0 (by omega) g0), lt_, gn_no (lN_ne0 (by omega) g0), lt_, lN_div (by omega) (by omega) (by omega), lN_div (by omega) (by omega) (by omega)]
theorem tellM {a b : Nat} (ha : a < 2 ^ 31) (hb : b < 2 ^ 31) (b0 : b ≠ 0) (ml : Nat → Int64) : X9_tellOdds (lN a) (lN b) ml = some (va_up (va_up ml 0 (lN (a / Nat.gcd a b))) 1 (lN (b / Nat.gcd a b))) := by
  have g0 := gcd_ne (a := a) b0
  have g1 := gcd_lt (a := a) b0 hb
  rw [X9_tellOdds, gcdM _ _ _ 31 a b 500 hb ha hb g0 (by omega), lN_div (by omega) (by omega) (by omega), lN_div (by omega) (by omega) (by omega)]
theorem smN_ge {f : Nat → Nat} {z : Nat} : ∀ n, z < n → f z ≤ smN f n
  | 0, h => by omega
  | n + 1, h => by
    rw [smN]
    by_cases e : z = n
    · subst e; omega
    · have := smN_ge (f := f) n (show z < n by omega)
      omega
section
variable {P n : Nat} {k t l h a : Nat → Int32} {d : Int32} {vS : Nat → Nat → Int32} {vF : Nat → Nat → Nat → Int32} {D : Nat → Nat} {mi : Nat → Int32} {ma : Nat → Nat → Int32} {mb : Nat → Nat → Int64}
variable {gi : Nat → Int32} {gl : Nat → Int64} {ga : Nat → Nat → Int32} {sN : Nat → Int32} {sF : Nat → Nat → Int32} {ml : Nat → Int64}
theorem can_go (o : OKV P k t h a D) {s : Nat} (no : ∀ z, z < 7 → cfb P h D z s = false) : ∀ x, x < P → D x ≠ 0 → s.testBit x = true := by
  have h7 := o.1
  have key : ∀ m x, x < P → D x = m + 1 → s.testBit x = true := by
    intro m
    induction m with
    | zero =>
      intro x hx hd
      have hh := (o.nine hx).mpr hd
      cases e : s.testBit x with
      | true => rfl
      | false =>
        have := no x (by omega)
        unfold cfb at this
        simp [hx, hd, e, hh] at this
    | succ m ih =>
      intro x hx hd
      rcases o.2.2.2.1 x hx with ⟨h1, h2⟩ | ⟨h1, h2⟩ | ⟨y, hy, h1, h2, h3⟩
      · omega
      · omega
      · have sy := ih y hy (by omega)
        cases e : s.testBit x with
        | true => rfl
        | false =>
          have := no x (by omega)
          unfold cfb at this
          rw [h1, cl_nI (by omega), sy] at this
          simp [hx, hd, e] at this
  intro x hx hd
  exact key (D x - 1) x hx (by omega)
theorem bh_pos (o : OKV P k t h a D) : ∀ f s, s < 128 → (∀ i, s.testBit i = true → i < P ∧ D i ≠ 0) → 7 - pcn s < f → 1 ≤ bh (cfb P h D) (bset (stk D) P) f s := by
  have h7 := o.1
  intro f
  induction f with
  | zero => intro s _ _ h; omega
  | succ f ih =>
    intro s hs sub hf
    rw [bh]
    by_cases ex : ∃ z, z < 7 ∧ cfb P h D z s = true
    · obtain ⟨z, hz, c⟩ := ex
      have e := pcn_bit s hs z hz (cfb_Cf P h D z s hz c)
      have l := pcn_le7 (s ||| 2 ^ z)
      have one := ih (s ||| 2 ^ z) (or_lt7 hs hz) (fun i hi => by
        rw [Nat.testBit_or, Nat.testBit_two_pow] at hi
        by_cases q : z = i
        · rw [← q]; exact cfb_P c
        · simp only [q, decide_false, Bool.or_false] at hi
          exact sub i hi) (by omega)
      have ge := smN_ge (f := fun z => if cfb P h D z s then bh (cfb P h D) (bset (stk D) P) f (s ||| 2 ^ z) else 0) (z := z) 7 hz
      rw [if_pos c] at ge
      omega
    · have all := can_go o (s := s) (fun z hz => by
        cases q : cfb P h D z s with
        | false => rfl
        | true => exact absurd ⟨z, hz, q⟩ ex)
      have e : s = bset (stk D) P := by
        apply Nat.eq_of_testBit_eq
        intro i
        rw [bset_bit]
        cases q : s.testBit i with
        | true =>
          obtain ⟨q1, q2⟩ := sub i q
          simp [q1, stk, q2]
        | false =>
          by_cases q1 : i < P
          · by_cases q2 : D i = 0
            · simp [stk, q2]
            · rw [all i q1 q2] at q; exact absurd q (by decide)
          · simp [q1]
      rw [one_, if_pos e]; omega
theorem BH_pos (o : OKV P k t h a D) : BH (cfb P h D) (bset (stk D) P) 0 ≠ 0 := by
  have := bh_pos o 8 0 (by omega) (fun i hi => by simp at hi) (by omega)
  unfold BH; omega
theorem BH31 {s : Nat} (hs : s < 128) : BH (cfb P h D) (bset (stk D) P) s < 2 ^ 31 := by
  have b := bh_le (cfb_Cf P h D) (fun z _ => cfb_S P h D z) 8 s hs
  have : 7 ^ (7 - pcn s) ≤ 7 ^ 7 := Nat.pow_le_pow_right (by omega) (by omega)
  unfold BH; omega
theorem sum31 {p : Nat → Prop} [DecidablePred p] {z : Nat} (hz : z < 7) : smN (fun s => if p s then EE (cfb P h D) (bset (stk D) P) s z else 0) 128 < 2 ^ 31 := by
  have := smN_le (f := fun s => if p s then EE (cfb P h D) (bset (stk D) P) s z else 0) (c := 7 ^ 6) 128 (fun s hs => by
    by_cases q : p s
    · rw [if_pos q]; exact EE_le (cfb_Cf P h D) (fun z _ => cfb_S P h D z) hs hz
    · rw [if_neg q]; exact Nat.zero_le _)
  omega
theorem nextAfterC {ga' : Nat → Nat → Int32} (o : OKV P k t h a D) (e2 : gi 2 = nI (bset (stk D) P)) (L : LK P h D ga ga') {x s : Nat} (hx : x < 7) (hs : s < 128) : X3_nextAfter gi ga' (nI s) (nI x) = some (nI (EE (cfb P h D) (bset (stk D) P) s x)) := by
  have lt := or_lt7 hs hx
  rw [X3_nextAfter, if_neg (nI_pos (by omega)), if_neg (show ¬ (7 : Int32) ≤ nI x from (nI_ge hx (by omega) : ¬ nI 7 ≤ nI x)), if_neg (nI_pos (by omega)), if_neg (show ¬ (128 : Int32) ≤ nI s from (nI_ge hs (by omega) : ¬ nI 128 ≤ nI s)), canFollowC o e2 L.1 hx hs, Option.bind_some, EE]
  by_cases c : cfb P h D x s = true
  · rw [if_pos c, if_pos c, if_neg one_ne, gd_nI hs (by omega), withC s hs x hx, Option.bind_some, gd_nI lt (by omega), cl_nI (by omega), cl_nI (by omega), L.2.1 s hs, L.2.2.1 _ lt, pk_mul]
  · rw [if_neg c, if_neg c, if_pos rfl]; rfl
theorem withPlaceC {ga' : Nat → Nat → Int32} (o : OKV P k t h a D) (e2 : gi 2 = nI (bset (stk D) P)) (L : LK P h D ga ga') {x : Nat} (hx : x < 7) (pl : Int32) : X3_withPlace gi ga' (nI x) pl = some (nI (smN (fun s => if nI (pcn s) = pl then EE (cfb P h D) (bset (stk D) P) s x else 0) 128)) := by
  rw [X3_withPlace]
  have key := lu4 (X3_withPlace_5 gi ga') (fun _ => nI x) (fun _ => pl) (fun i => nI (smN (fun s => if nI (pcn s) = pl then EE (cfb P h D) (bset (stk D) P) s x else 0) i)) nI 128 (some (nI (smN (fun s => if nI (pcn s) = pl then EE (cfb P h D) (bset (stk D) P) s x else 0) 128))) ?_ ?_ 0 500 (by omega) (by omega)
  · exact key
  · intro n i hi
    rw [X3_withPlace_5, if_neg (show ¬ (128 : Int32) ≤ nI i from (nI_ge hi (by omega) : ¬ nI 128 ≤ nI i)), bitc i hi, Option.bind_some, nextAfterC o e2 L hx hi, Option.bind_some, nI_1, nI_add, smN]
    by_cases q : nI (pcn i) = pl
    · rw [if_pos q, if_pos q]
    · rw [if_neg q, if_neg q]; rfl
  · intro n
    rw [X3_withPlace_5, if_pos (show (128 : Int32) ≤ nI 128 by decide)]
theorem withFirstC {ga' : Nat → Nat → Int32} (o : OKV P k t h a D) (e2 : gi 2 = nI (bset (stk D) P)) (L : LK P h D ga ga') {x y : Nat} (hx : x < 7) (hy : y < 7) : X3_withFirst gi ga' (nI x) (nI y) = some (nI (smN (fun s => if s.testBit x = true then EE (cfb P h D) (bset (stk D) P) s y else 0) 128)) := by
  rw [X3_withFirst]
  have key := lu4 (X3_withFirst_5 gi ga') (fun _ => nI x) (fun _ => nI y) (fun i => nI (smN (fun s => if s.testBit x = true then EE (cfb P h D) (bset (stk D) P) s y else 0) i)) nI 128 (some (nI (smN (fun s => if s.testBit x = true then EE (cfb P h D) (bset (stk D) P) s y else 0) 128))) ?_ ?_ 0 500 (by omega) (by omega)
  · exact key
  · intro n i hi
    rw [X3_withFirst_5, if_neg (show ¬ (128 : Int32) ≤ nI i from (nI_ge hi (by omega) : ¬ nI 128 ≤ nI i)), sh_bit i hi x hx, nextAfterC o e2 L hy hi, Option.bind_some, nI_1, nI_add, smN]
    cases q : i.testBit x with
    | true => rw [if_pos rfl, if_neg one_ne, if_pos rfl]
    | false => rfl
  · intro n
    rw [X3_withFirst_5, if_pos (show (128 : Int32) ≤ nI 128 by decide)]
/-- the reference's tables -/
def LM (P : Nat) (h : Nat → Int32) (D : Nat → Nat) (mb : Nat → Nat → Int64) : Prop := (∀ s, s < 128 → mb 0 s = lN (BH (cfb P h D) (bset (stk D) P) s)) ∧ ∀ s, s < 128 → mb 1 s = lN (BF (cfb P h D) s)
theorem LM_of (mb : Nat → Nat → Int64) (G G' : Nat → Int64) : LM P h D (va_up (va_up mb 0 (tL (BH (cfb P h D) (bset (stk D) P)) 0 G)) 1 (tbL (BF (cfb P h D)) G')) := by
  refine ⟨fun s hs => ?_, fun s hs => ?_⟩
  · rw [up_ne _ _ (show 0 ≠ 1 by omega), up_at, tL_in (by omega) hs]
  · rw [up_at, tbL_in hs]
theorem cameM (m : MV P k t l h a d mi ma) (o : OKV P k t h a D) (L : LM P h D mb) {x : Nat} (hx : x < P) (pl : Int32) : X9_came_40 500 (nI x) pl 0 0 mi ml ma mb = (X9_tellOdds (lN (smN (fun s => if nI (pcn s) = pl then EE (cfb P h D) (bset (stk D) P) s x else 0) 128)) (mb 0 0) ml).bind (fun ml' => some (1, mi, ml', ma, mb)) := by
  have h7 := o.1
  have key : ∀ q i f, i + q = 128 → q < f → X9_came_40 f (nI x) pl (lN (smN (fun s => if nI (pcn s) = pl then EE (cfb P h D) (bset (stk D) P) s x else 0) i)) (nI i) mi ml ma mb = (X9_tellOdds (lN (smN (fun s => if nI (pcn s) = pl then EE (cfb P h D) (bset (stk D) P) s x else 0) 128)) (mb 0 0) ml).bind (fun ml' => some (1, mi, ml', ma, mb)) := by
    intro q
    induction q with
    | zero =>
      intro i f g1 g2
      obtain ⟨f, rfl⟩ : ∃ z, f = z + 1 := ⟨f - 1, by omega⟩
      have : i = 128 := by omega
      subst this
      rw [X9_came_40, if_pos (show (128 : Int32) ≤ nI 128 by decide), gd_t (by decide)]
      rfl
    | succ q ih =>
      intro i f g1 g2
      obtain ⟨f, rfl⟩ : ∃ z, f = z + 1 := ⟨f - 1, by omega⟩
      have hi : i < 128 := by omega
      have lt := or_lt7 hi (show x < 7 by omega)
      have e := ih (i + 1) f (by omega) (by omega)
      rw [smN] at e
      have z0 : ∀ v, X9_came_84 (X9_came_40 f) (nI x) pl (lN v) (nI i) 0 mi ml ma mb = X9_came_40 f (nI x) pl (lN v) (nI (i + 1)) mi ml ma mb := by
        intro v; rw [X9_came_84, if_pos rfl, lN_0, nI_1]
      rw [X9_came_40, if_neg (show ¬ (128 : Int32) ≤ nI i from (nI_ge hi (by omega) : ¬ nI 128 ≤ nI i)), bitsM i hi, Option.bind_some, gd_nI hi (by omega), cl_nI (by omega), L.2 i hi, z0, mayComeM m o hx hi, Option.bind_some]
      by_cases q1 : nI (pcn i) = pl
      · rw [if_pos q1] at e ⊢
        rw [EE] at e
        by_cases q2 : BF (cfb P h D) i = 0
        · rw [if_pos ((lg_pos (by omega)).mpr q2)]
          rw [q2, Nat.zero_mul] at e
          have : (if cfb P h D x i = true then 0 else 0) = 0 := by split <;> rfl
          rw [this, Nat.add_zero] at e
          exact e
        · have bd := BF63 o hi
          rw [if_neg (fun w => q2 ((lg_pos (by omega)).mp w))]
          by_cases c : cfb P h D x i = true
          · rw [if_pos c] at e ⊢
            rw [if_neg one_ne, X9_came_84, if_neg one_ne, gd_nI hi (by omega), or_bit i hi x (by omega), gd_nI lt (by omega), lt_, cl_nI (by omega), cl_nI (by omega), L.2 i hi, L.1 _ lt, lN_mul, lN_add, nI_1]
            exact e
          · rw [if_neg c] at e ⊢
            rw [if_pos rfl]
            exact e
      · rw [if_neg q1] at e ⊢
        exact e
  exact key 128 0 500 (by omega) (by omega)
theorem aheadM (m : MV P k t l h a d mi ma) (o : OKV P k t h a D) (L : LM P h D mb) {x y : Nat} (hx : x < P) (hy : y < P) : X9_ahead_52 mi ma 500 (nI x) (nI y) 0 0 ml mb = (X9_tellOdds (lN (smN (fun s => if s.testBit y = false then EE (cfb P h D) (bset (stk D) P) s x else 0) 128)) (mb 0 0) ml).bind (fun ml' => some (1, ml', mb)) := by
  have h7 := o.1
  have key : ∀ q i f, i + q = 128 → q < f → X9_ahead_52 mi ma f (nI x) (nI y) (lN (smN (fun s => if s.testBit y = false then EE (cfb P h D) (bset (stk D) P) s x else 0) i)) (nI i) ml mb = (X9_tellOdds (lN (smN (fun s => if s.testBit y = false then EE (cfb P h D) (bset (stk D) P) s x else 0) 128)) (mb 0 0) ml).bind (fun ml' => some (1, ml', mb)) := by
    intro q
    induction q with
    | zero =>
      intro i f g1 g2
      obtain ⟨f, rfl⟩ : ∃ z, f = z + 1 := ⟨f - 1, by omega⟩
      have : i = 128 := by omega
      subst this
      rw [X9_ahead_52, if_pos (show (128 : Int32) ≤ nI 128 by decide), gd_t (by decide)]
      rfl
    | succ q ih =>
      intro i f g1 g2
      obtain ⟨f, rfl⟩ : ∃ z, f = z + 1 := ⟨f - 1, by omega⟩
      have hi : i < 128 := by omega
      have lt := or_lt7 hi (show x < 7 by omega)
      have e := ih (i + 1) f (by omega) (by omega)
      rw [smN] at e
      have z0 : ∀ v, X9_ahead_96 mi ma (X9_ahead_52 mi ma f) (nI x) (nI y) (lN v) (nI i) 0 ml mb = X9_ahead_52 mi ma f (nI x) (nI y) (lN v) (nI (i + 1)) ml mb := by
        intro v; rw [X9_ahead_96, if_pos rfl, lN_0, nI_1]
      rw [X9_ahead_52, if_neg (show ¬ (128 : Int32) ≤ nI i from (nI_ge hi (by omega) : ¬ nI 128 ≤ nI i)), hasM i hi y (by omega), Option.bind_some, gd_nI hi (by omega), cl_nI (by omega), L.2 i hi, z0, mayComeM m o hx hi, Option.bind_some]
      cases q1 : i.testBit y with
      | true =>
        rw [if_neg (by rw [q1]; decide)] at e
        rw [if_pos rfl, if_neg one_ne]
        exact e
      | false =>
        rw [if_pos q1, EE] at e
        rw [if_neg (show ¬ (false = true) by decide), if_pos rfl]
        by_cases q2 : BF (cfb P h D) i = 0
        · rw [if_pos ((lg_pos (by omega)).mpr q2)]
          rw [q2, Nat.zero_mul] at e
          have : (if cfb P h D x i = true then 0 else 0) = 0 := by split <;> rfl
          rw [this, Nat.add_zero] at e
          exact e
        · have bd := BF63 o hi
          rw [if_neg (fun w => q2 ((lg_pos (by omega)).mp w))]
          by_cases c : cfb P h D x i = true
          · rw [if_pos c] at e ⊢
            rw [if_neg one_ne, X9_ahead_96, if_neg one_ne, gd_nI hi (by omega), or_bit i hi x (by omega), gd_nI lt (by omega), lt_, cl_nI (by omega), cl_nI (by omega), L.2 i hi, L.1 _ lt, lN_mul, lN_add, nI_1]
            exact e
          · rw [if_neg c] at e ⊢
            rw [if_pos rfl]
            exact e
  exact key 128 0 500 (by omega) (by omega)
theorem Rel_look {ga' : Nat → Nat → Int32} {v : Int32} (R : Rel gi gl ga vS vF sN sF mi ml ma) (e : ga' 4 = ga 4) : Rel (va_up gi 2 v) gl ga' vS vF sN sF mi ml ma := by
  refine ⟨R.1, R.2.1, ⟨R.2.2.1.1, R.2.2.1.2.1, R.2.2.1.2.2.1, R.2.2.1.2.2.2.1, fun f hf => ?_⟩, R.2.2.2⟩
  rw [e]; exact R.2.2.1.2.2.2.2 f hf
theorem Rel_frac {u w : Int64} (R : Rel gi gl ga vS vF sN sF mi ml ma) : Rel gi (va_up (va_up gl 0 u) 1 w) ga vS vF sN sF mi (va_up (va_up ml 0 u) 1 w) ma :=
  ⟨R.1, R.2.1, ⟨R.2.2.1.1, R.2.2.1.2.1, rfl, rfl, R.2.2.1.2.2.2.2⟩, R.2.2.2⟩
theorem allC {ga' : Nat → Nat → Int32} (L : LK P h D ga ga') : X3_all ga' = some (nI (BH (cfb P h D) (bset (stk D) P) 0)) := by
  rw [X3_all, gd_t (by decide)]
  exact congrArg some (L.2.2.1 0 (by omega))
theorem st_orders (R : Rel gi gl ga vS vF sN sF mi ml ma) (mb : Nat → Nat → Int64) : ∃ r gi' gl' ga' ml' mb', X8_orders vS vF gi gl ga = some (r, gi', gl', ga') ∧ X9_orders mi ma ml mb = some (r, ml', mb') ∧ Rel gi' gl' ga' vS vF sN sF mi ml' ma := by
  obtain ⟨P, k, t, l, h, a, d, D, c, m, o, -⟩ := R.2.2.2.view
  obtain ⟨ga', el, L⟩ := lookC c o gi ga
  have b31 := BH31 (P := P) (h := h) (D := D) (s := 0) (by omega)
  refine ⟨1, va_up gi 2 (nI (bset (stk D) P)), va_up (va_up gl 0 (lN (BH (cfb P h D) (bset (stk D) P) 0))) 1 (lN 1), ga', va_up (va_up ml 0 (lN (BH (cfb P h D) (bset (stk D) P) 0))) 1 (lN 1), (va_up mb 0 (tL (BH (cfb P h D) (bset (stk D) P)) 0 (mb 0))), ?_, ?_, Rel_frac (Rel_look R L.2.2.2)⟩
  · rw [X8_orders, el, bd2_some, allC L, Option.bind_some, nI_L b31, show (1 : Int64) = lN 1 from rfl, tellC b31 (by omega) (by omega), Option.bind_some, Nat.gcd_one_right, Nat.div_one, Nat.div_one]
  · rw [X9_orders, findBehindM m o, Option.bind_some, gd_t (by decide), lt_, lt_, up_at]
    have e0 : tL (BH (cfb P h D) (bset (stk D) P)) 0 (mb 0) (0 : Int32).toNatClampNeg = lN (BH (cfb P h D) (bset (stk D) P) 0) := tL_in (s := 0) (by omega) (by omega)
    rw [e0]
    rfl
theorem st_came (R : Rel gi gl ga vS vF sN sF mi ml ma) (mb : Nat → Nat → Int64) (x y : Int32) : ∃ r gi' gl' ga' mi' ml' ma' mb', X8_came vS vF x y gi gl ga = some (r, gi', gl', ga') ∧ X9_came x y mi ml ma mb = some (r, mi', ml', ma', mb') ∧ Rel gi' gl' ga' vS vF sN sF mi' ml' ma' := by
  obtain ⟨P, k, t, l, h, a, d, D, c, m, o, -⟩ := R.2.2.2.view
  have h7 := o.1
  rcases one_cases c.1 m.1 h7 x with ⟨z, hz, rfl, h1, h2⟩ | ⟨-, h1, h2⟩
  · by_cases y0 : 0 ≤ y
    · by_cases s0 : cnt (stk D) P = 0
      · refine ⟨-3, _, gl, _, _, ml, _, mb, ?_, ?_, Rel_found (f := 4) R (by omega)⟩
        · rw [X8_came, h1, Option.bind_some, if_neg one_ne, if_pos y0, stuckSetC c o, Option.bind_some, if_pos ((nI_b0 h7 _).mpr s0), show (4 : Int32) = nI 4 from rfl, foundC (by omega) (by omega)]; rfl
        · rw [X9_came, h2, Option.bind_some, if_neg one_ne, if_pos y0, stuckSetM m o, Option.bind_some, if_pos ((nI_b0 h7 _).mpr s0), show (4 : Int32) = nI 4 from rfl, findsM (by omega)]; rfl
      · have sn : ¬ nI (bset (stk D) P) = 0 := fun w => s0 ((nI_b0 h7 _).mp w)
        obtain ⟨ga', el, L⟩ := lookC c o gi ga
        have b31 := BH31 (P := P) (h := h) (D := D) (s := 0) (by omega)
        have s31 := sum31 (P := P) (h := h) (D := D) (p := fun s => nI (pcn s) = y) (z := z) (by omega)
        have LMb := LM_of (P := P) (h := h) (D := D) mb (mb 0) (va_up mb 0 (tL (BH (cfb P h D) (bset (stk D) P)) 0 (mb 0)) 1)
        refine ⟨1, va_up gi 2 (nI (bset (stk D) P)), va_up (va_up gl 0 (lN ((smN (fun s => if nI (pcn s) = y then EE (cfb P h D) (bset (stk D) P) s z else 0) 128) / Nat.gcd (smN (fun s => if nI (pcn s) = y then EE (cfb P h D) (bset (stk D) P) s z else 0) 128) (BH (cfb P h D) (bset (stk D) P) 0)))) 1 (lN ((BH (cfb P h D) (bset (stk D) P) 0) / Nat.gcd (smN (fun s => if nI (pcn s) = y then EE (cfb P h D) (bset (stk D) P) s z else 0) 128) (BH (cfb P h D) (bset (stk D) P) 0))), ga', mi, va_up (va_up ml 0 (lN ((smN (fun s => if nI (pcn s) = y then EE (cfb P h D) (bset (stk D) P) s z else 0) 128) / Nat.gcd (smN (fun s => if nI (pcn s) = y then EE (cfb P h D) (bset (stk D) P) s z else 0) 128) (BH (cfb P h D) (bset (stk D) P) 0)))) 1 (lN ((BH (cfb P h D) (bset (stk D) P) 0) / Nat.gcd (smN (fun s => if nI (pcn s) = y then EE (cfb P h D) (bset (stk D) P) s z else 0) 128) (BH (cfb P h D) (bset (stk D) P) 0))), ma, (va_up (va_up mb 0 (tL (BH (cfb P h D) (bset (stk D) P)) 0 (mb 0))) 1 (tbL (BF (cfb P h D)) ((va_up mb 0 (tL (BH (cfb P h D) (bset (stk D) P)) 0 (mb 0))) 1))), ?_, ?_, Rel_frac (Rel_look R L.2.2.2)⟩
        · rw [X8_came, h1, Option.bind_some, if_neg one_ne, if_pos y0, stuckSetC c o, Option.bind_some, if_neg sn, el, bd2_some, withPlaceC o (up_at _ _ _) L (by omega), Option.bind_some, allC L, Option.bind_some, nI_L b31, nI_L s31, tellC s31 b31 (BH_pos o), Option.bind_some]
        · rw [X9_came, h2, Option.bind_some, if_neg one_ne, if_pos y0, stuckSetM m o, Option.bind_some, if_neg sn, findBehindM m o, Option.bind_some, findAheadM m o, Option.bind_some, cameM m o LMb hz, LMb.1 0 (by omega), tellM s31 b31 (BH_pos o), Option.bind_some]
    · refine ⟨-1, gi, gl, ga, mi, ml, ma, mb, ?_, ?_, R⟩
      · rw [X8_came, h1, Option.bind_some, if_neg one_ne, if_neg y0]
      · rw [X9_came, h2, Option.bind_some, if_neg one_ne, if_neg y0]
  · refine ⟨-1, gi, gl, ga, mi, ml, ma, mb, ?_, ?_, R⟩
    · rw [X8_came, h1, Option.bind_some, if_pos rfl]
    · rw [X9_came, h2, Option.bind_some, if_pos rfl]
theorem st_ahead (R : Rel gi gl ga vS vF sN sF mi ml ma) (mb : Nat → Nat → Int64) (x y : Int32) : ∃ r gi' gl' ga' ml' mb', X8_ahead vS vF x y gi gl ga = some (r, gi', gl', ga') ∧ X9_ahead mi ma x y ml mb = some (r, ml', mb') ∧ Rel gi' gl' ga' vS vF sN sF mi ml' ma := by
  obtain ⟨P, k, t, l, h, a, d, D, c, m, o, -⟩ := R.2.2.2.view
  have h7 := o.1
  rcases one_cases c.1 m.1 h7 x with ⟨u, hu, rfl, h1, h2⟩ | ⟨np, h1, h2⟩
  · rcases one_cases c.1 m.1 h7 y with ⟨v, hv, rfl, g1, g2⟩ | ⟨nq, g1, g2⟩
    · by_cases du : D u = 0
      · refine ⟨-1, gi, gl, ga, ml, mb, ?_, ?_, R⟩
        · rw [X8_ahead, isStuckC c o hu, if_pos du, Option.bind_some, if_pos rfl]
        · rw [X9_ahead, h2, Option.bind_some, if_neg one_ne, g2, Option.bind_some, if_neg one_ne, isStuckM m o hu, if_pos du, Option.bind_some, if_pos rfl]
          split <;> rfl
      · by_cases dv : D v = 0
        · refine ⟨-1, gi, gl, ga, ml, mb, ?_, ?_, R⟩
          · rw [X8_ahead, isStuckC c o hu, if_neg du, Option.bind_some, if_neg one_ne, isStuckC c o hv, if_pos dv, Option.bind_some, if_pos rfl]
          · rw [X9_ahead, h2, Option.bind_some, if_neg one_ne, g2, Option.bind_some, if_neg one_ne, isStuckM m o hu, if_neg du, Option.bind_some, if_neg one_ne, isStuckM m o hv, if_pos dv, Option.bind_some, if_pos rfl]
            split <;> rfl
        · by_cases e : u = v
          · refine ⟨-1, gi, gl, ga, ml, mb, ?_, ?_, R⟩
            · rw [X8_ahead, isStuckC c o hu, if_neg du, Option.bind_some, if_neg one_ne, isStuckC c o hv, if_neg dv, Option.bind_some, if_neg one_ne, if_pos (by rw [e])]
            · rw [X9_ahead, h2, Option.bind_some, if_neg one_ne, g2, Option.bind_some, if_neg one_ne, if_pos (by rw [e])]
          · have ne : ¬ nI u = nI v := fun q => e ((nI_eq (by omega) (by omega)).mp q)
            obtain ⟨ga', el, L⟩ := lookC c o gi ga
            have b31 := BH31 (P := P) (h := h) (D := D) (s := 0) (by omega)
            have s31 := sum31 (P := P) (h := h) (D := D) (p := fun s => s.testBit v = false) (z := u) (by omega)
            have LMb := LM_of (P := P) (h := h) (D := D) mb (mb 0) (va_up mb 0 (tL (BH (cfb P h D) (bset (stk D) P)) 0 (mb 0)) 1)
            have eq := ahead_eq (cfb_Cf P h D) (S := bset (stk D) P) (x := u) (y := v) (by omega) (by omega) e (by rw [bset_bit]; simp [hv, stk, dv])
            refine ⟨1, va_up gi 2 (nI (bset (stk D) P)), va_up (va_up gl 0 (lN ((smN (fun s => if s.testBit v = false then EE (cfb P h D) (bset (stk D) P) s u else 0) 128) / Nat.gcd (smN (fun s => if s.testBit v = false then EE (cfb P h D) (bset (stk D) P) s u else 0) 128) (BH (cfb P h D) (bset (stk D) P) 0)))) 1 (lN ((BH (cfb P h D) (bset (stk D) P) 0) / Nat.gcd (smN (fun s => if s.testBit v = false then EE (cfb P h D) (bset (stk D) P) s u else 0) 128) (BH (cfb P h D) (bset (stk D) P) 0))), ga', va_up (va_up ml 0 (lN ((smN (fun s => if s.testBit v = false then EE (cfb P h D) (bset (stk D) P) s u else 0) 128) / Nat.gcd (smN (fun s => if s.testBit v = false then EE (cfb P h D) (bset (stk D) P) s u else 0) 128) (BH (cfb P h D) (bset (stk D) P) 0)))) 1 (lN ((BH (cfb P h D) (bset (stk D) P) 0) / Nat.gcd (smN (fun s => if s.testBit v = false then EE (cfb P h D) (bset (stk D) P) s u else 0) 128) (BH (cfb P h D) (bset (stk D) P) 0))), (va_up (va_up mb 0 (tL (BH (cfb P h D) (bset (stk D) P)) 0 (mb 0))) 1 (tbL (BF (cfb P h D)) ((va_up mb 0 (tL (BH (cfb P h D) (bset (stk D) P)) 0 (mb 0))) 1))), ?_, ?_, Rel_frac (Rel_look R L.2.2.2)⟩
            · rw [X8_ahead, isStuckC c o hu, if_neg du, Option.bind_some, if_neg one_ne, isStuckC c o hv, if_neg dv, Option.bind_some, if_neg one_ne, if_neg ne, el, bd2_some, withFirstC o (up_at _ _ _) L (by omega) (by omega), Option.bind_some, allC L, Option.bind_some, eq, nI_L b31, nI_L s31, tellC s31 b31 (BH_pos o), Option.bind_some]
            · rw [X9_ahead, h2, Option.bind_some, if_neg one_ne, g2, Option.bind_some, if_neg one_ne, if_neg ne, isStuckM m o hu, if_neg du, Option.bind_some, if_neg one_ne, isStuckM m o hv, if_neg dv, Option.bind_some, if_neg one_ne, findBehindM m o, Option.bind_some, findAheadM m o, Option.bind_some, aheadM m o LMb hu hv, LMb.1 0 (by omega), tellM s31 b31 (BH_pos o), Option.bind_some]
    · refine ⟨-1, gi, gl, ga, ml, mb, ?_, ?_, R⟩
      · rw [X8_ahead, isStuckC c o hu, Option.bind_some, isStuckC0 c o nq, Option.bind_some, if_pos rfl]
        split <;> rfl
      · rw [X9_ahead, h2, Option.bind_some, if_neg one_ne, g2, Option.bind_some, if_pos rfl]
  · refine ⟨-1, gi, gl, ga, ml, mb, ?_, ?_, R⟩
    · rw [X8_ahead, isStuckC0 c o np, Option.bind_some, if_pos rfl]
    · rw [X9_ahead, h2, Option.bind_some, if_pos rfl]
end
