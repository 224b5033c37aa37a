/-! ORDERS: rows by sets of those who came first -/
def cfb (P : Nat) (h : Nat → Int32) (D : Nat → Nat) (x s : Nat) : Bool := decide (x < P) && (decide (D x ≠ 0) && (!s.testBit x && (decide (h x = 9) || s.testBit (h x).toNatClampNeg)))
def one_ (b : Prop) [Decidable b] : Nat := if b then 1 else 0
def bh (cf : Nat → Nat → Bool) (S : Nat) : Nat → Nat → Nat
  | 0, _ => 0
  | f + 1, s => one_ (s = S) + smN (fun z => if cf z s then bh cf S f (s ||| 2 ^ z) else 0) 7
def BH (cf : Nat → Nat → Bool) (S s : Nat) : Nat := bh cf S 8 s
def Tz (cf : Nat → Nat → Bool) (T : Nat → Nat) (n z : Nat) : Nat → Nat := fun s => T s + smN (fun w => if cf w n = true ∧ n ||| 2 ^ w = s then T n else 0) z
def TT (cf : Nat → Nat → Bool) : Nat → Nat → Nat
  | 0 => fun s => one_ (s = 0)
  | n + 1 => Tz cf (TT cf n) n 7
def BF (cf : Nat → Nat → Bool) (s : Nat) : Nat := TT cf 128 s
/-- one follows a set only from outside it -/
def Cf (cf : Nat → Nat → Bool) : Prop := ∀ z s, z < 7 → cf z s = true → s.testBit z = false
theorem or_lt7 {s z : Nat} (hs : s < 128) (hz : z < 7) : s ||| 2 ^ z < 128 := Nat.or_lt_two_pow (n := 7) hs (p7 z hz)
theorem or_add : ∀ s, s < 128 → ∀ z, z < 7 → s.testBit z = false → s ||| 2 ^ z = s + 2 ^ z := by decide +kernel
theorem pcn_le7 (s : Nat) : pcn s ≤ 7 := cnt_le _ 7
section
variable {cf : Nat → Nat → Bool} {S : Nat}
theorem bh_st (hc : Cf cf) : ∀ f g s, s < 128 → 7 - pcn s < f → 7 - pcn s < g → bh cf S f s = bh cf S g s := by
  intro f
  induction f with
  | zero => intro g s _ h; omega
  | succ f ih =>
    intro g s hs h1 h2
    obtain ⟨g, rfl⟩ : ∃ z, g = z + 1 := ⟨g - 1, by omega⟩
    rw [bh, bh]
    congr 1
    refine sN_cg 7 (fun z hz => ?_)
    by_cases q : cf z s = true
    · have hb := hc z s hz q
      have e := pcn_bit s hs z hz hb
      have l := pcn_le7 (s ||| 2 ^ z)
      rw [if_pos q, if_pos q, ih g _ (or_lt7 hs hz) (by omega) (by omega)]
    · rw [if_neg q, if_neg q]
theorem BH_eq (hc : Cf cf) {s : Nat} (hs : s < 128) : BH cf S s = one_ (s = S) + smN (fun z => if cf z s then BH cf S (s ||| 2 ^ z) else 0) 7 := by
  rw [BH, bh]
  refine congrArg (fun v => one_ (s = S) + v) ?_
  refine sN_cg 7 (fun z hz => ?_)
  by_cases q : cf z s = true
  · have hb := hc z s hz q
    have e := pcn_bit s hs z hz hb
    have l := pcn_le7 (s ||| 2 ^ z)
    rw [if_pos q, if_pos q, BH, bh_st hc 7 8 _ (or_lt7 hs hz) (by omega) (by omega)]
  · rw [if_neg q, if_neg q]
theorem bh_sub (hc : Cf cf) {s : Nat} (hs : s &&& (127 ^^^ S) ≠ 0) (hS : S &&& (127 ^^^ S) = 0) : ∀ f s, s &&& (127 ^^^ S) ≠ 0 → bh cf S f s = 0 := by
  intro f
  induction f with
  | zero => intro s _; rfl
  | succ f ih =>
    intro s h
    have ne : ¬ s = S := fun e => h (by rw [e]; exact hS)
    rw [bh, one_, if_neg ne, smN_zero 7 (fun z hz => ?_)]
    by_cases q : cf z s = true
    · rw [if_pos q]
      refine ih _ (fun e => h ?_)
      apply Nat.eq_of_testBit_eq
      intro i
      have := congrArg (fun v => v.testBit i) e
      simp only [Nat.testBit_and, Nat.testBit_or, Nat.zero_testBit] at this ⊢
      cases h1 : s.testBit i with
      | false => simp
      | true => rw [h1] at this; simpa using this
    · rw [if_neg q]
theorem bh_le (hc : Cf cf) (hS : ∀ z, z < 7 → cf z S = false) : ∀ f s, s < 128 → bh cf S f s ≤ 7 ^ (7 - pcn s) := by
  intro f
  induction f with
  | zero => intro s _; exact Nat.zero_le _
  | succ f ih =>
    intro s hs
    rw [bh, one_]
    by_cases e : s = S
    · rw [if_pos e, smN_zero 7 (fun z hz => by rw [e, hS z hz]; rfl)]
      exact Nat.one_le_pow _ _ (by omega)
    · rw [if_neg e, Nat.zero_add]
      by_cases k : pcn s = 7
      · rw [smN_zero 7 (fun z hz => ?_)]
        · exact Nat.zero_le _
        · by_cases q : cf z s = true
          · have e := pcn_bit s hs z hz (hc z s hz q)
            have l := pcn_le7 (s ||| 2 ^ z)
            omega
          · rw [if_neg q]
      · have l7 := pcn_le7 s
        obtain ⟨r, hr⟩ : ∃ r, 7 - pcn s = r + 1 := ⟨7 - pcn s - 1, by omega⟩
        have := smN_le (f := fun z => if cf z s then bh cf S f (s ||| 2 ^ z) else 0) (c := 7 ^ r) 7 (fun z hz => by
          by_cases q : cf z s = true
          · have e := pcn_bit s hs z hz (hc z s hz q)
            have b := ih _ (or_lt7 hs hz)
            rw [show 7 - pcn (s ||| 2 ^ z) = r by omega] at b
            rw [if_pos q]; exact b
          · rw [if_neg q]; exact Nat.zero_le _)
        rw [hr, Nat.pow_succ]; omega
theorem Tz_n (hc : Cf cf) {T : Nat → Nat} {n z s : Nat} (hn : n < 128) (hz : z ≤ 7) (hs : s ≤ n) : Tz cf T n z s = T s := by
  unfold Tz
  rw [smN_zero z (fun w hw => ?_)]
  · rfl
  · rw [if_neg]
    intro q
    have e := or_add n hn w (by omega) (hc w n (by omega) q.1)
    have := Nat.two_pow_pos w
    omega
theorem Tz_s {T : Nat → Nat} {n z s : Nat} : Tz cf T n (z + 1) s = Tz cf T n z s + (if cf z n = true ∧ n ||| 2 ^ z = s then T n else 0) := by
  unfold Tz; rw [smN]; omega
theorem TT_fix (hc : Cf cf) {s : Nat} : ∀ e, s + e ≤ 128 → TT cf (s + e) s = TT cf s s := by
  intro e
  induction e with
  | zero => intro _; rfl
  | succ e ih =>
    intro h
    show Tz cf (TT cf (s + e)) (s + e) 7 s = _
    rw [Tz_n hc (by omega) (by omega) (by omega), ih (by omega)]
theorem TT_BF (hc : Cf cf) {s : Nat} (hs : s ≤ 128) : TT cf s s = BF cf s := by
  have := TT_fix (cf := cf) hc (s := s) (128 - s) (by omega)
  rw [show s + (128 - s) = 128 by omega] at this
  exact this.symm
theorem TT_mono {n s : Nat} : TT cf n s ≤ TT cf (n + 1) s := by
  show _ ≤ Tz cf (TT cf n) n 7 s
  unfold Tz; omega
theorem TT_le {s : Nat} : ∀ e n, TT cf n s ≤ TT cf (n + e) s
  | 0, _ => Nat.le_refl _
  | e + 1, n => Nat.le_trans (TT_le e n) TT_mono
theorem TT_leBF {n s : Nat} (hn : n ≤ 128) : TT cf n s ≤ BF cf s := by
  have := TT_le (cf := cf) (s := s) (128 - n) n
  rw [show n + (128 - n) = 128 by omega] at this
  exact this
theorem BF_eq (hc : Cf cf) (s : Nat) : BF cf s = one_ (s = 0) + smN (fun n => smN (fun w => if cf w n = true ∧ n ||| 2 ^ w = s then BF cf n else 0) 7) 128 := by
  have key : ∀ n, n ≤ 128 → TT cf n s = one_ (s = 0) + smN (fun n => smN (fun w => if cf w n = true ∧ n ||| 2 ^ w = s then BF cf n else 0) 7) n := by
    intro n
    induction n with
    | zero => intro _; rfl
    | succ n ih =>
      intro h
      show Tz cf (TT cf n) n 7 s = _
      unfold Tz
      rw [ih (by omega), TT_BF hc (by omega)]
      exact Nat.add_assoc _ _ _
  exact key 128 (Nat.le_refl _)
theorem BF_le (hc : Cf cf) : ∀ m s, s < m → s < 128 → BF cf s ≤ 7 ^ pcn s := by
  intro m
  induction m with
  | zero => intro s h; omega
  | succ m ih =>
    intro s h hs
    rw [BF_eq hc]
    by_cases e : s = 0
    · rw [smN_zero 128 (fun n hn => smN_zero 7 (fun w hw => ?_))]
      · rw [Nat.add_zero, one_, if_pos e]
        exact Nat.one_le_pow _ _ (by omega)
      · rw [if_neg]
        intro q
        have e := or_add n hn w hw (hc w n hw q.1)
        have := Nat.two_pow_pos w
        omega
    · rw [one_, if_neg e, Nat.zero_add, smN_swap]
      have p0 : pcn s ≠ 0 := by
        have : ∀ s, s < 128 → s ≠ 0 → pcn s ≠ 0 := by decide +kernel
        exact this s hs e
      obtain ⟨r, hr⟩ : ∃ r, pcn s = r + 1 := ⟨pcn s - 1, by omega⟩
      have := smN_le (f := fun w => smN (fun n => if cf w n = true ∧ n ||| 2 ^ w = s then BF cf n else 0) 128) (c := 7 ^ r) 7 (fun w hw => by
        have one := smN_one (w := s - 2 ^ w) (f := fun n => if cf w n = true ∧ n ||| 2 ^ w = s then BF cf n else 0) 128 (by have := Nat.sub_le s (2 ^ w); omega) (fun n hn ne => by
          rw [if_neg]
          intro q
          have e := or_add n hn w hw (hc w n hw q.1)
          omega)
        rw [one]
        by_cases q : cf w (s - 2 ^ w) = true ∧ s - 2 ^ w ||| 2 ^ w = s
        · have hb := hc w _ hw q.1
          have e1 := or_add (s - 2 ^ w) (by have := Nat.sub_le s (2 ^ w); omega) w hw hb
          have := Nat.two_pow_pos w
          have e2 := pcn_bit (s - 2 ^ w) (by omega) w hw hb
          rw [q.2] at e2
          have b := ih (s - 2 ^ w) (by omega) (by omega)
          rw [show pcn (s - 2 ^ w) = r by omega] at b
          rw [if_pos q]; exact b
        · rw [if_neg q]; exact Nat.zero_le _)
      rw [hr, Nat.pow_succ]; omega
/-- rows that pass from a set to the next by one -/
def EE (cf : Nat → Nat → Bool) (S s z : Nat) : Nat := if cf z s = true then BF cf s * BH cf S (s ||| 2 ^ z) else 0
theorem EE_le (hc : Cf cf) (hS : ∀ z, z < 7 → cf z S = false) {s z : Nat} (hs : s < 128) (hz : z < 7) : EE cf S s z ≤ 7 ^ 6 := by
  unfold EE
  by_cases q : cf z s = true
  · have e := pcn_bit s hs z hz (hc z s hz q)
    have l := pcn_le7 (s ||| 2 ^ z)
    have b1 := BF_le hc (s + 1) s (by omega) hs
    have b2 := bh_le hc hS 8 (s ||| 2 ^ z) (or_lt7 hs hz)
    rw [if_pos q]
    refine Nat.le_trans (Nat.mul_le_mul b1 b2) ?_
    rw [← Nat.pow_add]
    exact Nat.pow_le_pow_right (by omega) (by omega)
  · rw [if_neg q]; exact Nat.zero_le _
/-- one ahead of another: counted where the second comes, and where the first comes -/
theorem ahead_eq (hc : Cf cf) {x y : Nat} (hx : x < 7) (hy : y < 7) (hxy : x ≠ y) (hSy : S.testBit y = true) :
    smN (fun s => if s.testBit x = true then EE cf S s y else 0) 128 = smN (fun s => if s.testBit y = false then EE cf S s x else 0) 128 := by
  have out : smN (fun s => if s.testBit x = true ∧ s.testBit y = false then BF cf s * BH cf S s else 0) 128 = smN (fun s => smN (fun z => if s.testBit x = true ∧ s.testBit y = false then EE cf S s z else 0) 7) 128 := by
    refine sN_cg 128 (fun s hs => ?_)
    by_cases q : s.testBit x = true ∧ s.testBit y = false
    · have ne : ¬ s = S := fun e => by rw [e, hSy] at q; exact absurd q.2 (by decide)
      rw [if_pos q, BH_eq hc hs, one_, if_neg ne, Nat.zero_add]
      have mul : ∀ (c : Nat) (f : Nat → Nat) n, c * smN f n = smN (fun z => c * f z) n := by
        intro c f n
        induction n with
        | zero => rfl
        | succ n ih => rw [smN, smN, Nat.mul_add, ih]
      rw [mul]
      refine sN_cg 7 (fun z hz => ?_)
      rw [if_pos q, EE]
      by_cases k : cf z s = true
      · rw [if_pos k, if_pos k]
      · rw [if_neg k, if_neg k, Nat.mul_zero]
    · rw [if_neg q]
      exact (smN_zero 7 (fun z hz => by rw [if_neg q])).symm
  have inn : smN (fun s => if s.testBit x = true ∧ s.testBit y = false then BF cf s * BH cf S s else 0) 128 = smN (fun t => smN (fun z => if (t ||| 2 ^ z).testBit x = true ∧ (t ||| 2 ^ z).testBit y = false then EE cf S t z else 0) 7) 128 := by
    have e1 : smN (fun s => if s.testBit x = true ∧ s.testBit y = false then BF cf s * BH cf S s else 0) 128 = smN (fun s => smN (fun t => smN (fun z => if cf z t = true ∧ t ||| 2 ^ z = s then (if s.testBit x = true ∧ s.testBit y = false then BF cf t * BH cf S s else 0) else 0) 7) 128) 128 := by
      refine sN_cg 128 (fun s hs => ?_)
      by_cases q : s.testBit x = true ∧ s.testBit y = false
      · have ne : ¬ s = 0 := fun e => by rw [e] at q; simp at q
        rw [if_pos q, BF_eq hc, one_, if_neg ne, Nat.zero_add]
        have mul : ∀ (c : Nat) (f : Nat → Nat) n, smN f n * c = smN (fun z => f z * c) n := by
          intro c f n
          induction n with
          | zero => exact Nat.zero_mul c
          | succ n ih => rw [smN, smN, Nat.add_mul, ih]
        rw [mul]
        refine sN_cg 128 (fun t ht => ?_)
        rw [mul]
        refine sN_cg 7 (fun z hz => ?_)
        by_cases k : cf z t = true ∧ t ||| 2 ^ z = s
        · rw [if_pos k, if_pos k, if_pos q]
        · rw [if_neg k, if_neg k, Nat.zero_mul]
      · rw [if_neg q]
        refine (smN_zero 128 (fun t ht => smN_zero 7 (fun z hz => ?_))).symm
        rw [if_neg q]
        split <;> rfl
    rw [e1, smN_swap]
    refine sN_cg 128 (fun t ht => ?_)
    rw [smN_swap]
    refine sN_cg 7 (fun z hz => ?_)
    rw [smN_one (w := t ||| 2 ^ z) 128 (or_lt7 ht hz) (fun s hs ne => by rw [if_neg (fun q => ne q.2.symm)])]
    rw [EE]
    by_cases k : cf z t = true
    · rw [if_pos ⟨k, rfl⟩, if_pos k]
    · rw [if_neg (fun q => k q.1), if_neg k]
      split <;> rfl
  have eo : smN (fun s => smN (fun z => if s.testBit x = true ∧ s.testBit y = false then EE cf S s z else 0) 7) 128 = smN (fun s => smN (fun z => if z ≠ x ∧ z ≠ y ∧ s.testBit x = true ∧ s.testBit y = false then EE cf S s z else 0) 7 + (if s.testBit x = true then EE cf S s y else 0)) 128 := by
    refine sN_cg 128 (fun s hs => ?_)
    have e2 : smN (fun z => if z = y then (if s.testBit x = true then EE cf S s y else 0) else 0) 7 = (if s.testBit x = true then EE cf S s y else 0) := by
      rw [smN_one (w := y) 7 hy (fun i _ ne => by rw [if_neg ne]), if_pos rfl]
    rw [← e2, ← sN_ad]
    refine sN_cg 7 (fun z hz => ?_)
    by_cases zy : z = y
    · rw [zy, if_neg (show ¬ (y ≠ x ∧ y ≠ y ∧ s.testBit x = true ∧ s.testBit y = false) from fun q => q.2.1 rfl), if_pos rfl, Nat.zero_add]
      by_cases k : cf y s = true
      · have := hc y s hy k
        by_cases sx : s.testBit x = true
        · rw [if_pos ⟨sx, this⟩, if_pos sx]
        · rw [if_neg (fun q => sx q.1), if_neg sx]
      · have : EE cf S s y = 0 := by rw [EE, if_neg k]
        rw [this]
        split <;> split <;> rfl
    · rw [if_neg zy, Nat.add_zero]
      by_cases zx : z = x
      · rw [zx, if_neg (show ¬ (x ≠ x ∧ x ≠ y ∧ s.testBit x = true ∧ s.testBit y = false) from fun q => q.1 rfl)]
        by_cases k : cf x s = true
        · have := hc x s hx k
          rw [if_neg]; intro q; rw [this] at q; exact absurd q.1 (by decide)
        · have : EE cf S s x = 0 := by rw [EE, if_neg k]
          rw [this]; split <;> rfl
      · by_cases q : s.testBit x = true ∧ s.testBit y = false
        · rw [if_pos q, if_pos ⟨zx, zy, q⟩]
        · rw [if_neg q, if_neg (fun w => q w.2.2)]
  have ei : smN (fun t => smN (fun z => if (t ||| 2 ^ z).testBit x = true ∧ (t ||| 2 ^ z).testBit y = false then EE cf S t z else 0) 7) 128 = smN (fun s => smN (fun z => if z ≠ x ∧ z ≠ y ∧ s.testBit x = true ∧ s.testBit y = false then EE cf S s z else 0) 7 + (if s.testBit y = false then EE cf S s x else 0)) 128 := by
    refine sN_cg 128 (fun s hs => ?_)
    have e2 : smN (fun z => if z = x then (if s.testBit y = false then EE cf S s x else 0) else 0) 7 = (if s.testBit y = false then EE cf S s x else 0) := by
      rw [smN_one (w := x) 7 hx (fun i _ ne => by rw [if_neg ne]), if_pos rfl]
    rw [← e2, ← sN_ad]
    refine sN_cg 7 (fun z hz => ?_)
    have tb : ∀ i, (s ||| 2 ^ z).testBit i = (s.testBit i || decide (z = i)) := fun i => by rw [Nat.testBit_or, Nat.testBit_two_pow]
    rw [tb x, tb y]
    by_cases zx : z = x
    · have zy : ¬ x = y := hxy
      rw [zx, if_neg (show ¬ (x ≠ x ∧ x ≠ y ∧ s.testBit x = true ∧ s.testBit y = false) from fun q => q.1 rfl), if_pos rfl, Nat.zero_add]
      by_cases sy : s.testBit y = false
      · rw [if_pos (by simp [sy, zy]), if_pos sy]
      · rw [if_neg (fun q => by simp [zy] at q; exact sy q), if_neg sy]
    · rw [if_neg zx, Nat.add_zero]
      by_cases zy : z = y
      · rw [if_neg (fun q => by simp [zy] at q), if_neg (fun q => q.2.1 zy)]
      · by_cases q : s.testBit x = true ∧ s.testBit y = false
        · rw [if_pos (by simp [q.1, q.2, zy]), if_pos ⟨zx, zy, q⟩]
        · rw [if_neg (fun w => q (by simpa [zx, zy] using w)), if_neg (fun w => q w.2.2)]
  have fin := out.symm.trans inn
  rw [eo, ei, sN_ad, sN_ad] at fin
  omega
end
