/-! plain facts: sets of people as numbers, counting, loops -/
def bset (p : Nat → Bool) : Nat → Nat
  | 0 => 0
  | n + 1 => if p n then bset p n ||| 2 ^ n else bset p n
def cnt (p : Nat → Bool) : Nat → Nat
  | 0 => 0
  | n + 1 => cnt p n + (if p n then 1 else 0)
def pcn (s : Nat) : Nat := cnt (fun i => s.testBit i) 7
theorem bset_lt (p : Nat → Bool) : ∀ n, bset p n < 2 ^ n
  | 0 => by simp [bset]
  | n + 1 => by
    have h1 : bset p n < 2 ^ (n + 1) := Nat.lt_of_lt_of_le (bset_lt p n) (Nat.pow_le_pow_right (by decide) (by omega))
    have h2 : 2 ^ n < 2 ^ (n + 1) := Nat.pow_lt_pow_right (by decide) (by omega)
    rw [bset]
    split
    · exact Nat.or_lt_two_pow h1 h2
    · exact h1
theorem bset_lt7 {p : Nat → Bool} {n : Nat} (h : n ≤ 7) : bset p n < 128 :=
  Nat.lt_of_lt_of_le (bset_lt p n) (Nat.pow_le_pow_right (by decide) h)
theorem bset_bit (p : Nat → Bool) : ∀ n i, (bset p n).testBit i = (decide (i < n) && p i)
  | 0, i => by simp [bset]
  | n + 1, i => by
    have ih := bset_bit p n i
    rw [bset]
    by_cases hp : p n = true
    · rw [if_pos hp, Nat.testBit_or, ih, Nat.testBit_two_pow]
      by_cases h : n = i
      · subst h; simp [hp]
      · have e : decide (i < n + 1) = decide (i < n) := by rw [decide_eq_decide]; omega
        simp [h, e]
    · rw [if_neg hp, ih]
      by_cases h : n = i
      · subst h; simp [hp]
      · have e : decide (i < n + 1) = decide (i < n) := by rw [decide_eq_decide]; omega
        rw [e]
theorem bset_cong {p q : Nat → Bool} : ∀ {n : Nat}, (∀ i, i < n → p i = q i) → bset p n = bset q n
  | 0, _ => rfl
  | n + 1, h => by rw [bset, bset, bset_cong (fun i hi => h i (by omega)), h n (by omega)]
theorem cnt_cong {p q : Nat → Bool} : ∀ {n : Nat}, (∀ i, i < n → p i = q i) → cnt p n = cnt q n
  | 0, _ => rfl
  | n + 1, h => by rw [cnt, cnt, cnt_cong (fun i hi => h i (by omega)), h n (by omega)]
theorem cnt_le (p : Nat → Bool) : ∀ n, cnt p n ≤ n
  | 0 => Nat.le_refl _
  | n + 1 => by
    have := cnt_le p n
    rw [cnt]; split <;> omega
theorem lu1 {A ρ : Type} (f : Nat → A → Option ρ) (a : Nat → A) (P : Nat) (R : Option ρ) (hs : ∀ n i, i < P → f (n + 1) (a i) = f n (a (i + 1))) (he : ∀ n, f (n + 1) (a P) = R) : ∀ (i n : Nat), i ≤ P → P - i < n → f n (a i) = R := by
  intro i n
  induction n generalizing i with
  | zero => intro _ h; omega
  | succ n ih =>
    intro h1 h2
    rcases Nat.lt_or_ge i P with q | q
    · rw [hs n i q]; exact ih (i + 1) (by omega) (by omega)
    · have : i = P := by omega
      subst this; exact he n
theorem lu2 {A B ρ : Type} (f : Nat → A → B → Option ρ) (a : Nat → A) (b : Nat → B) (P : Nat) (R : Option ρ) (hs : ∀ n i, i < P → f (n + 1) (a i) (b i) = f n (a (i + 1)) (b (i + 1))) (he : ∀ n, f (n + 1) (a P) (b P) = R) (i n : Nat) (h1 : i ≤ P) (h2 : P - i < n) : f n (a i) (b i) = R :=
  lu1 (fun n s => f n s.1 s.2) (fun i => (a i, b i)) P R hs he i n h1 h2
theorem lu3 {A B C ρ : Type} (f : Nat → A → B → C → Option ρ) (a : Nat → A) (b : Nat → B) (c : Nat → C) (P : Nat) (R : Option ρ) (hs : ∀ n i, i < P → f (n + 1) (a i) (b i) (c i) = f n (a (i + 1)) (b (i + 1)) (c (i + 1))) (he : ∀ n, f (n + 1) (a P) (b P) (c P) = R) (i n : Nat) (h1 : i ≤ P) (h2 : P - i < n) : f n (a i) (b i) (c i) = R :=
  lu1 (fun n s => f n s.1 s.2.1 s.2.2) (fun i => (a i, b i, c i)) P R hs he i n h1 h2
theorem lu4 {A B C E ρ : Type} (f : Nat → A → B → C → E → Option ρ) (a : Nat → A) (b : Nat → B) (c : Nat → C) (e : Nat → E) (P : Nat) (R : Option ρ) (hs : ∀ n i, i < P → f (n + 1) (a i) (b i) (c i) (e i) = f n (a (i + 1)) (b (i + 1)) (c (i + 1)) (e (i + 1))) (he : ∀ n, f (n + 1) (a P) (b P) (c P) (e P) = R) (i n : Nat) (h1 : i ≤ P) (h2 : P - i < n) : f n (a i) (b i) (c i) (e i) = R :=
  lu1 (fun n s => f n s.1 s.2.1 s.2.2.1 s.2.2.2) (fun i => (a i, b i, c i, e i)) P R hs he i n h1 h2
theorem lu5 {A B C E F ρ : Type} (f : Nat → A → B → C → E → F → Option ρ) (a : Nat → A) (b : Nat → B) (c : Nat → C) (e : Nat → E) (g : Nat → F) (P : Nat) (R : Option ρ) (hs : ∀ n i, i < P → f (n + 1) (a i) (b i) (c i) (e i) (g i) = f n (a (i + 1)) (b (i + 1)) (c (i + 1)) (e (i + 1)) (g (i + 1))) (he : ∀ n, f (n + 1) (a P) (b P) (c P) (e P) (g P) = R) (i n : Nat) (h1 : i ≤ P) (h2 : P - i < n) : f n (a i) (b i) (c i) (e i) (g i) = R :=
  lu1 (fun n s => f n s.1 s.2.1 s.2.2.1 s.2.2.2.1 s.2.2.2.2) (fun i => (a i, b i, c i, e i, g i)) P R hs he i n h1 h2
theorem ib_nI {i n : Nat} (h : i < n) (hn : n < 2 ^ 31) : ib (nI i) n = true := decide_eq_true (vp_in_nI h hn)
theorem gd_t {α : Type} {b : Bool} {k : Option α} (h : b = true) : gd b k = k := by rw [gd, if_pos h]
theorem gd_nI {α : Type} {i n : Nat} {k : Option α} (h : i < n) (hn : n < 2 ^ 31) : gd (ib (nI i) n) k = k := gd_t (ib_nI h hn)
theorem cl_nI {i : Nat} (h : i < 2 ^ 31) : (nI i).toNatClampNeg = i := nI_clamp h
theorem bitc : ∀ s, s < 128 → J6_bitCount_0f7a4 (nI s) = some (nI (pcn s)) := by decide +kernel
theorem bitsM : ∀ s, s < 128 → X9_bits (nI s) = some (nI (pcn s)) := by decide +kernel
theorem sh_bit : ∀ s, s < 128 → ∀ x, x < 7 → ((nI s >>> (nI x &&& 31)) &&& (1 : Int32)) = if s.testBit x then 1 else 0 := by decide +kernel
theorem or_bit : ∀ s, s < 128 → ∀ x, x < 7 → (nI s ||| ((1 : Int32) <<< (nI x &&& 31))) = nI (s ||| 2 ^ x) := by decide +kernel
theorem pcn_bit : ∀ s, s < 128 → ∀ x, x < 7 → s.testBit x = false → pcn (s ||| 2 ^ x) = pcn s + 1 := by decide +kernel
theorem hasM : ∀ s, s < 128 → ∀ x, x < 7 → X9_has (nI s) (nI x) = some (if s.testBit x then 1 else 0) := by decide +kernel
theorem lowM : ∀ s, s < 128 → s ≠ 0 → ∃ x, x < 7 ∧ X9_lowest (nI s) = some (nI x) ∧ s.testBit x = true ∧ ∀ y, y < x → s.testBit y = false := by decide +kernel
theorem withC : ∀ s, s < 128 → ∀ x, x < 7 → X3_with (nI s) (nI x) = some (nI (s ||| 2 ^ x)) := by decide +kernel
theorem pcn_bset {p : Nat → Bool} : ∀ {n : Nat}, n ≤ 7 → pcn (bset p n) = cnt p n
  | 0, _ => by show pcn 0 = 0; decide
  | n + 1, h => by
    have ih := pcn_bset (p := p) (n := n) (by omega)
    rw [bset, cnt]
    split
    · rw [pcn_bit _ (bset_lt7 (by omega)) n (by omega) (by rw [bset_bit]; simp), ih]
    · rw [ih]; rfl
theorem bset_0 {p : Nat → Bool} {n : Nat} : bset p n = 0 ↔ ∀ i, i < n → p i = false := by
  constructor
  · intro h i hi
    have := bset_bit p n i
    rw [h] at this
    simpa [hi] using this
  · intro h
    apply Nat.eq_of_testBit_eq
    intro i
    rw [bset_bit]
    by_cases hi : i < n
    · simp [hi, h i hi]
    · simp [hi]
theorem cnt_0 {p : Nat → Bool} : ∀ {n : Nat}, (cnt p n = 0 ↔ ∀ i, i < n → p i = false)
  | 0 => by simp [cnt]
  | n + 1 => by
    have ih := cnt_0 (p := p) (n := n)
    rw [cnt]
    constructor
    · intro h i hi
      rcases Nat.lt_or_ge i n with q | q
      · exact ih.mp (by omega) i q
      · have : i = n := by omega
        subst this
        by_cases hp : p i = true
        · rw [if_pos hp] at h; omega
        · simpa using hp
    · intro h
      rw [ih.mpr (fun i hi => h i (by omega)), h n (by omega)]; rfl
theorem iL (n : Nat) : (OfNat.ofNat n : Int32) = nI n := rfl
theorem lgc_lt (x y : Int64) : lg_cmp x y < 0 ↔ x < y := by
  unfold lg_cmp
  by_cases h1 : x > y
  · rw [if_pos h1]
    have h2 : y < x := h1
    have : ¬ x < y := fun q => by have a := Int64.lt_iff_toInt_lt.mp q; have b := Int64.lt_iff_toInt_lt.mp h2; omega
    simp [this]
  · rw [if_neg h1]
    have h2 : ¬ y < x := h1
    by_cases h3 : x = y
    · subst h3; simp
    · rw [if_neg h3]
      have : x < y := by
        rw [Int64.lt_iff_toInt_lt] at h2 ⊢
        have : x.toInt ≠ y.toInt := fun q => h3 (Int64.toInt_inj.mp q)
        omega
      simp [this]
theorem lgc_gt (x y : Int64) : 0 < lg_cmp x y ↔ y < x := by
  unfold lg_cmp
  by_cases h1 : x > y
  · rw [if_pos h1]
    have h2 : y < x := h1
    simp [h2]
  · rw [if_neg h1]
    have h2 : ¬ y < x := h1
    by_cases h3 : x = y
    · subst h3; simp
    · rw [if_neg h3]; simp [h2]
theorem inM (x lo hi : Int64) : X9_in x lo hi = some (if x < lo ∨ hi < x then 0 else 1) := by
  rw [X9_in]
  by_cases h1 : x < lo
  · rw [if_pos ((lgc_lt _ _).mpr h1), if_pos (Or.inl h1)]
  · rw [if_neg (fun q => h1 ((lgc_lt _ _).mp q))]
    by_cases h2 : hi < x
    · rw [if_pos ((lgc_gt _ _).mpr h2), if_pos (Or.inr h2)]
    · rw [if_neg (fun q => h2 ((lgc_gt _ _).mp q)), if_neg (fun q => q.elim h1 h2)]
theorem ti64 (a : Int32) : a.toInt64.toInt = a.toInt := Int32.toInt_toInt64 a
theorem l64 (n : Nat) (h : n < 2 ^ 31) : (OfNat.ofNat n : Int64).toInt = n := lN_toInt h
/-- of a number and a bound: within, or not -/
theorem inI (x : Int32) (lo hi : Int64) (a b : Int) (ha : lo.toInt = a) (hb : hi.toInt = b) : X9_in x.toInt64 lo hi = some (if a ≤ x.toInt ∧ x.toInt ≤ b then 1 else 0) := by
  rw [inM]
  simp only [Int64.lt_iff_toInt_lt, ti64, ha, hb]
  by_cases h : a ≤ x.toInt ∧ x.toInt ≤ b
  · rw [if_pos h, if_neg (by omega)]
  · rw [if_neg h, if_pos (by omega)]
theorem toI_nI {n : Nat} (h : n < 2 ^ 31) : (nI n).toInt = n := nI_toInt h
theorem toI_m1 {n : Nat} (h : n < 2 ^ 30) : (nI n - 1).toInt = (n : Int) - 1 := by
  have := pk_sub_toInt (a := n) (b := 1) h (by omega)
  exact this
