def allF (p : Nat → Bool) : Nat → Nat → Bool
  | 0, _ => true
  | n + 1, i => p i && allF p n (i + 1)
theorem allF_cong {p q : Nat → Bool} : ∀ n i, (∀ j, i ≤ j → j < i + n → p j = q j) → allF p n i = allF q n i
  | 0, _, _ => rfl
  | n + 1, i, h => by rw [allF, allF, h i (by omega) (by omega), allF_cong n (i + 1) (fun j h1 h2 => h j (by omega) (by omega))]
def pr1 (f : Nat → Int32) (i : Nat) : Bool := decide (0 ≤ (f (2 * i)).toInt ∧ (f (2 * i)).toInt ≤ 7 ∧ 0 ≤ (f (2 * i + 1)).toInt ∧ (f (2 * i + 1)).toInt ≤ 1)
def pr2 (f : Nat → Int32) (i : Nat) : Bool := if i % 2 = 0 then decide (0 ≤ (f i).toInt ∧ (f i).toInt ≤ 7) else decide (0 ≤ (f i).toInt ∧ (f i).toInt ≤ 1)
theorem pr12 (f : Nat → Int32) : ∀ n i, allF (pr2 f) (2 * n) (2 * i) = allF (pr1 f) n i
  | 0, _ => rfl
  | n + 1, i => by
    rw [show 2 * (n + 1) = 2 * n + 1 + 1 by omega, allF, allF, allF, show 2 * i + 1 + 1 = 2 * (i + 1) by omega, pr12 f n (i + 1), ← Bool.and_assoc]
    congr 1
    rw [pr1, pr2, pr2, if_pos (by omega), if_neg (by omega), ← Bool.decide_and]
    congr 1
    rw [eq_iff_iff]
    constructor
    · intro h; omega
    · intro h; omega
theorem zI : (0 : Int32).toInt = 0 := rfl
section
variable {gi : Nat → Int32} {gl : Nat → Int64} {ga : Nat → Nat → Int32} {vS : Nat → Nat → Int32} {vF : Nat → Nat → Nat → Int32} {sN : Nat → Int32} {sF : Nat → Nat → Int32} {mi : Nat → Int32} {ml : Nat → Int64} {ma : Nat → Nat → Int32}
theorem holdsPairsC {j w : Nat} (hj : sL j = 40) (hw : 2 * w ≤ 40) (e : sN j = nI (2 * w)) : X8_holdsPairs sN sF j = some (if allF (pr1 (sF j)) w 0 then 1 else 0) := by
  have key : ∀ k i n, i + k = w → k < n → X8_holdsPairs_2 sN sF j n (nI (2 * i)) = some (if allF (pr1 (sF j)) k i then 1 else 0) := by
    intro k
    induction k with
    | zero =>
      intro i n h1 h2
      obtain ⟨n, rfl⟩ : ∃ q, n = q + 1 := ⟨n - 1, by omega⟩
      rw [X8_holdsPairs_2, e, nI_1, if_pos (nI_le (by omega) (by omega))]; rfl
    | succ k ih =>
      intro i n h1 h2
      obtain ⟨n, rfl⟩ : ∃ q, n = q + 1 := ⟨n - 1, by omega⟩
      rw [X8_holdsPairs_2, e, nI_1, if_neg (nI_ge (by omega) (by omega)), hj, gd_nI (by omega) (by omega), gd_nI (by omega) (by omega), cl_nI (by omega), cl_nI (by omega), nI_two, show 2 * i + 2 = 2 * (i + 1) by omega, ih (i + 1) n (by omega) (by omega), allF, pr1]
      simp only [Int32.lt_iff_toInt_lt, Int32.le_iff_toInt_le, zI, show (7 : Int32).toInt = 7 from rfl, show (1 : Int32).toInt = 1 from rfl]
      by_cases a1 : (sF j (2 * i)).toInt < 0
      · have : ¬ 0 ≤ (sF j (2 * i)).toInt := by omega
        simp [a1]
        omega
      · by_cases a2 : 7 < (sF j (2 * i)).toInt
        · rw [if_neg a1, if_pos a2, decide_eq_false (by omega)]; rfl
        · by_cases a3 : (sF j (2 * i + 1)).toInt < 0
          · rw [if_neg a1, if_neg a2, if_pos a3, decide_eq_false (by omega)]; rfl
          · by_cases a4 : (sF j (2 * i + 1)).toInt ≤ 1
            · rw [if_neg a1, if_neg a2, if_neg a3, if_pos a4, decide_eq_true (by omega), Bool.true_and]
            · rw [if_neg a1, if_neg a2, if_neg a3, if_neg a4, decide_eq_false (by omega)]; rfl
  exact key w 0 500 (by omega) (by omega)
theorem mod2 {i : Nat} (h : i < 2 ^ 30) : (nI i - nI i / (2 : Int32) * (2 : Int32)) = 0 ↔ i % 2 = 0 := by
  rw [show (2 : Int32) = nI 2 from rfl, pk_rem (by omega) (by omega) (by omega)]
  constructor
  · intro q
    exact (nI_eq (a := i % 2) (b := 0) (by omega) (by omega)).mp q
  · intro q; rw [q]; rfl
theorem gn_2 {α : Type} {k : Option α} : gn ((2 : Int32) = 0) k = k := by rw [gn, if_neg (by decide)]
theorem arePairsM {r m : Nat} (hr : r < 6) (hm : m ≤ 40) (e : ma 10 r = nI m) {f : Nat → Int32} (hf : ∀ i, i < 40 → f i = ma 11 (40 * r + i)) : X9_arePairs ma (nI r) = some (if allF (pr2 f) m 0 then 1 else 0) := by
  have key : ∀ k i n (b : Bool), i + k = m → k < n → X9_arePairs_4 ma n (nI r) (if b then 1 else 0) (nI i) = some (if (b && allF (pr2 f) k i) then 1 else 0) := by
    intro k
    induction k with
    | zero =>
      intro i n b h1 h2
      obtain ⟨n, rfl⟩ : ∃ q, n = q + 1 := ⟨n - 1, by omega⟩
      rw [X9_arePairs_4, gd_nI (by omega) (by omega), cl_nI (by omega), e, if_pos (nI_le (by omega) (by omega)), gd_t (by cases b <;> rfl), allF, Bool.and_true]
    | succ k ih =>
      intro i n b h1 h2
      obtain ⟨n, rfl⟩ : ∃ q, n = q + 1 := ⟨n - 1, by omega⟩
      rw [X9_arePairs_4, gd_nI (by omega) (by omega), cl_nI (by omega), e, if_neg (nI_ge (by omega) (by omega)), show (40 : Int32) = nI 40 from rfl, pk_mul, nI_add, gd_nI (by omega) (by omega), gn_2, cl_nI (by omega), ← hf i (by omega), inI _ 0 7 0 7 rfl rfl, inI _ 0 1 0 1 rfl rfl, Option.bind_some, Option.bind_some, nI_1]
      have i0 := ih (i + 1) n false (by omega) (by omega)
      have i1 := ih (i + 1) n true (by omega) (by omega)
      simp only [Bool.false_eq_true, if_false, if_true, Bool.false_and, Bool.true_and] at i0 i1
      rw [i0, i1, allF, pr2]
      cases b
      · simp
      · by_cases h2 : i % 2 = 0
        · rw [if_pos ((mod2 (by omega)).mpr h2)]
          by_cases h3 : 0 ≤ (f i).toInt ∧ (f i).toInt ≤ 7
          · simp [h2, h3]
          · simp only [h3, h2, if_false, if_true, decide_false, Bool.false_and, Bool.and_false, Bool.false_eq_true]
            rfl
        · rw [if_neg (fun q => h2 ((mod2 (by omega)).mp q))]
          by_cases h3 : 0 ≤ (f i).toInt ∧ (f i).toInt ≤ 1
          · simp [h2, h3]
          · simp only [h3, h2, if_false, if_true, decide_false, Bool.false_and, Bool.and_false, Bool.false_eq_true]
            rfl
  have := key m 0 500 true (by omega) (by omega)
  simp only [if_true, Bool.true_and] at this
  rw [X9_arePairs]
  exact this
/-- what was laughed at fits a TASTE -/
def ft (f : Nat → Int32) (due i : Nat) : Bool := decide (¬ f (2 * i) < nI due) == decide (f (2 * i + 1) = 1)
theorem fitsPairsC {j w : Nat} (hj : sL j = 40) (hw : 2 * w ≤ 40) (e : sN j = nI (2 * w)) (due : Nat) : X8_fitsPairs sN sF j (nI due) = some (if allF (ft (sF j) due) w 0 then 1 else 0) := by
  have key : ∀ k i n, i + k = w → k < n → X8_fitsPairs_2 sN sF j n (nI due) (nI (2 * i)) = some (if allF (ft (sF j) due) k i then 1 else 0) := by
    intro k
    induction k with
    | zero =>
      intro i n h1 h2
      obtain ⟨n, rfl⟩ : ∃ q, n = q + 1 := ⟨n - 1, by omega⟩
      rw [X8_fitsPairs_2, e, nI_1, if_pos (nI_le (by omega) (by omega))]; rfl
    | succ k ih =>
      intro i n h1 h2
      obtain ⟨n, rfl⟩ : ∃ q, n = q + 1 := ⟨n - 1, by omega⟩
      rw [X8_fitsPairs_2, e, nI_1, if_neg (nI_ge (by omega) (by omega)), hj, gd_nI (by omega) (by omega), cl_nI (by omega), X8_fitsPairs_27, X8_fitsPairs_27, nI_1, hj, gd_nI (by omega) (by omega), gd_nI (by omega) (by omega), cl_nI (by omega), nI_two, show 2 * i + 2 = 2 * (i + 1) by omega, ih (i + 1) n (by omega) (by omega), allF, ft]
      by_cases a1 : sF j (2 * i) < nI due
      · by_cases a2 : sF j (2 * i + 1) = 1
        · simp [a1, a2]
        · simp [a1, a2]
      · by_cases a2 : sF j (2 * i + 1) = 1
        · simp [a1, a2]
        · simp [a1, a2]
  exact key w 0 500 (by omega) (by omega)
theorem or_bit9 : ∀ s, s < 512 → ∀ x, x < 9 → (nI s ||| ((1 : Int32) <<< (nI x &&& 31))) = nI (s ||| 2 ^ x) := by decide +kernel
def tset (f : Nat → Int32) (w more : Nat) : Nat → Bool := fun v => decide (v ≠ 0) && allF (ft f (v + more)) w 0
theorem bset9 (p : Nat → Bool) {n : Nat} (h : n ≤ 9) : bset p n < 512 := Nat.lt_of_lt_of_le (bset_lt p n) (Nat.pow_le_pow_right (by decide) h)
theorem nI_bs9 (p : Nat → Bool) {i : Nat} (hi : i < 9) : nI (bset p (i + 1)) = if p i then nI (bset p i) ||| ((1 : Int32) <<< (nI i &&& 31)) else nI (bset p i) := by
  rw [bset]
  split
  · rw [or_bit9 _ (bset9 _ (by omega)) i hi]
  · rfl
theorem fitLoopC {r w more : Nat} (hr : r < 6) (hw : 2 * w ≤ 40) (e : sN r = nI (2 * w)) : X8_tastesThatFit_70 sN sF 500 (nI r) (nI more) 0 1 gi ga = some (nI (bset (tset (sF r) w more) 9), gi, ga) := by
  have key := lu2 (fun m (x y : Int32) => X8_tastesThatFit_70 sN sF m (nI r) (nI more) x y gi ga) (fun i => nI (bset (tset (sF r) w more) i)) nI 9 (some (nI (bset (tset (sF r) w more) 9), gi, ga))
  have h1 : ∀ n i, i < 9 → i ≠ 0 → X8_tastesThatFit_70 sN sF (n + 1) (nI r) (nI more) (nI (bset (tset (sF r) w more) i)) (nI i) gi ga = X8_tastesThatFit_70 sN sF n (nI r) (nI more) (nI (bset (tset (sF r) w more) (i + 1))) (nI (i + 1)) gi ga := by
    intro n i hi h0
    rw [X8_tastesThatFit_70, show (8 : Int32) = nI 8 from rfl, if_neg (nI_nlt (by omega) (by omega)), gd_nI (by omega) (by omega), cl_nI (by omega), nI_add, fitsPairsC (sL40 hr) hw e, Option.bind_some, nI_1, nI_bs9 _ hi]
    have : tset (sF r) w more i = allF (ft (sF r) (i + more)) w 0 := by simp [tset, h0]
    rw [this]
    cases allF (ft (sF r) (i + more)) w 0 <;> simp
  have h2 : ∀ n, X8_tastesThatFit_70 sN sF (n + 1) (nI r) (nI more) (nI (bset (tset (sF r) w more) 9)) (nI 9) gi ga = some (nI (bset (tset (sF r) w more) 9), gi, ga) := by
    intro n
    rw [X8_tastesThatFit_70, show (8 : Int32) = nI 8 from rfl, if_pos (nI_lt (by omega) (by omega))]
  have h3 : ∀ k i n, i + k = 9 → k < n → i ≠ 0 → X8_tastesThatFit_70 sN sF n (nI r) (nI more) (nI (bset (tset (sF r) w more) i)) (nI i) gi ga = some (nI (bset (tset (sF r) w more) 9), gi, ga) := by
    intro k
    induction k with
    | zero =>
      intro i n e1 e2 e3
      obtain ⟨n, rfl⟩ : ∃ q, n = q + 1 := ⟨n - 1, by omega⟩
      have : i = 9 := by omega
      subst this; exact h2 n
    | succ k ih =>
      intro i n e1 e2 e3
      obtain ⟨n, rfl⟩ : ∃ q, n = q + 1 := ⟨n - 1, by omega⟩
      rw [h1 n i (by omega) e3]
      exact ih (i + 1) n (by omega) (by omega) (by omega)
  have := h3 8 1 500 (by omega) (by omega) (by omega)
  exact this
theorem fitLoopM {r w more : Nat} (hr : r < 6) (hw : 2 * w ≤ 40) (e : ma 10 r = nI (2 * w)) {f : Nat → Int32} (hf : ∀ i, i < 40 → f i = ma 11 (40 * r + i)) : X9_tastesBy_60 500 (nI r) (nI more) 0 1 mi ma = some (nI (bset (tset f w more) 9), mi, ma) := by
  have inner : ∀ (k60 : Int32 → Int32 → Int32 → Int32 → (Nat → Int32) → (Nat → Nat → Int32) → Option (Int32 × (Nat → Int32) × (Nat → Nat → Int32))) (s : Int32) (v k i n : Nat) (b : Bool), i + k = w → k < n → X9_tastesBy_73 k60 n (nI r) (nI more) s (nI v) (if b then 1 else 0) (nI (2 * i)) mi ma = k60 (nI r) (nI more) (if (b && allF (ft f (v + more)) k i) then s ||| ((1 : Int32) <<< (nI v &&& 31)) else s) (nI (v + 1)) mi ma := by
    intro k60 s v k
    induction k with
    | zero =>
      intro i n b h1 h2
      obtain ⟨n, rfl⟩ : ∃ q, n = q + 1 := ⟨n - 1, by omega⟩
      rw [X9_tastesBy_73, gd_nI (by omega) (by omega), cl_nI (by omega), e, if_pos (nI_le (by omega) (by omega)), nI_1, allF, Bool.and_true, or0]
      cases b <;> simp
    | succ k ih =>
      intro i n b h1 h2
      obtain ⟨n, rfl⟩ : ∃ q, n = q + 1 := ⟨n - 1, by omega⟩
      rw [X9_tastesBy_73, gd_nI (by omega) (by omega), cl_nI (by omega), e, if_neg (nI_ge (by omega) (by omega)), show (40 : Int32) = nI 40 from rfl, pk_mul, nI_add, gd_nI (by omega) (by omega), cl_nI (by omega), ← hf _ (by omega), nI_add, X9_tastesBy_108, X9_tastesBy_108, show (40 : Int32) = nI 40 from rfl, pk_mul, nI_add, nI_1, gd_nI (by omega) (by omega), gd_nI (by omega) (by omega), cl_nI (by omega), show 40 * r + 2 * i + 1 = 40 * r + (2 * i + 1) by omega, ← hf _ (by omega), nI_two, show 2 * i + 2 = 2 * (i + 1) by omega]
      have i0 := ih (i + 1) n false (by omega) (by omega)
      have i1 := ih (i + 1) n true (by omega) (by omega)
      simp only [Bool.false_eq_true, if_false, if_true, Bool.false_and, Bool.true_and] at i0 i1
      rw [i0, i1, allF, ft]
      cases b
      · simp
      · by_cases a1 : f (2 * i) < nI (v + more)
        · by_cases a2 : f (2 * i + 1) = 1
          · simp [a1, a2]
          · simp [a1, a2]
        · by_cases a2 : f (2 * i + 1) = 1
          · simp [a1, a2]
          · simp [a1, a2]
  have h3 : ∀ k i n, i + k = 9 → k < n → i ≠ 0 → X9_tastesBy_60 n (nI r) (nI more) (nI (bset (tset f w more) i)) (nI i) mi ma = some (nI (bset (tset f w more) 9), mi, ma) := by
    intro k
    induction k with
    | zero =>
      intro i n e1 e2 e3
      obtain ⟨n, rfl⟩ : ∃ q, n = q + 1 := ⟨n - 1, by omega⟩
      have : i = 9 := by omega
      subst this
      rw [X9_tastesBy_60, show (9 : Int32) = nI 9 from rfl, if_pos (nI_le (by omega) (by omega))]
    | succ k ih =>
      intro i n e1 e2 e3
      obtain ⟨n, rfl⟩ : ∃ q, n = q + 1 := ⟨n - 1, by omega⟩
      have i1 := inner (X9_tastesBy_60 n) (nI (bset (tset f w more) i)) i w 0 500 true (by omega) (by omega)
      simp only [if_true, Bool.true_and] at i1
      rw [X9_tastesBy_60, show (9 : Int32) = nI 9 from rfl, if_neg (nI_ge (by omega) (by omega))]
      refine Eq.trans i1 ?_
      have : tset f w more i = allF (ft f (i + more)) w 0 := by simp [tset, e3]
      have h4 := ih (i + 1) n (by omega) (by omega) (by omega)
      rw [nI_bs9 _ (by omega), this] at h4
      exact h4
  have := h3 8 1 500 (by omega) (by omega) (by omega)
  exact this
theorem st_fit (R : Rel gi gl ga vS vF sN sF mi ml ma) (a : Int32) {more : Nat} (hmore : more ≤ 1) : ∃ r gi' ga' mi' ma', X8_tastesThatFit sN sF a (nI more) gi ga = some (r, gi', ga') ∧ X9_tastesBy a (nI more) mi ma = some (r, mi', ma') ∧ Rel gi' gl ga' vS vF sN sF mi' ml ma' := by
  rcases row_cases a with ⟨r, hr, rfl, h1, h2⟩ | ⟨h1, h2⟩
  · obtain ⟨e1, hs, ef⟩ := R.1 r hr
    rcases sz_cases hs (by omega) with ⟨em, hneg⟩ | ⟨m, hm, em, hpos⟩
    · refine ⟨-3, _, _, _, _, ?_, ?_, Rel_found (f := 1) R (by omega)⟩
      · rw [X8_tastesThatFit, h1, Option.bind_some, if_neg one_ne, gd_nI (by omega) (by omega), cl_nI (by omega), isMissingC, if_neg hneg, Option.bind_some, if_neg one_ne, show (1 : Int32) = nI 1 from rfl, foundC (by omega) (by omega)]; rfl
      · rw [X9_tastesBy, h2, Option.bind_some, if_neg one_ne, gd_nI (by omega) (by omega), cl_nI (by omega), ← e1, if_neg hneg, show (1 : Int32) = nI 1 from rfl, findsM (by omega)]; rfl
    · have em' : ma 10 r = nI m := e1 ▸ em
      by_cases h2m : m % 2 = 0
      · obtain ⟨w, rfl⟩ : ∃ w, m = 2 * w := ⟨m / 2, by omega⟩
        have hmod := (mod2 (i := 2 * w) (by omega)).mpr h2m
        have ep := pr12 (sF r) w 0
        rw [Nat.mul_zero] at ep
        cases hp : allF (pr1 (sF r)) w 0
        · refine ⟨-3, _, _, _, _, ?_, ?_, Rel_found (f := 3) R (by omega)⟩
          · rw [X8_tastesThatFit, h1, Option.bind_some, if_neg one_ne, gd_nI (by omega) (by omega), cl_nI (by omega), isMissingC, if_pos hpos, Option.bind_some, if_pos rfl, gd_nI (by omega) (by omega), gn_2, em, if_pos hmod, gd_nI (by omega) (by omega), holdsPairsC (sL40 hr) hm em, hp, Option.bind_some, show (3 : Int32) = nI 3 from rfl, foundC (by omega) (by omega)]; rfl
          · rw [X9_tastesBy, h2, Option.bind_some, if_neg one_ne, gd_nI (by omega) (by omega), cl_nI (by omega), ← e1, if_pos hpos, gd_nI (by omega) (by omega), gn_2, em, if_pos hmod, arePairsM hr hm em' ef, ep, hp, Option.bind_some, show (3 : Int32) = nI 3 from rfl, findsM (by omega)]; rfl
        · refine ⟨nI (bset (tset (sF r) w more) 9), gi, ga, mi, ma, ?_, ?_, R⟩
          · rw [X8_tastesThatFit, h1, Option.bind_some, if_neg one_ne, gd_nI (by omega) (by omega), cl_nI (by omega), isMissingC, if_pos hpos, Option.bind_some, if_pos rfl, gd_nI (by omega) (by omega), gn_2, em, if_pos hmod, gd_nI (by omega) (by omega), holdsPairsC (sL40 hr) hm em, hp, Option.bind_some, if_pos rfl, if_neg one_ne, fitLoopC hr hm em]
          · rw [X9_tastesBy, h2, Option.bind_some, if_neg one_ne, gd_nI (by omega) (by omega), cl_nI (by omega), ← e1, if_pos hpos, gd_nI (by omega) (by omega), gn_2, em, if_pos hmod, arePairsM hr hm em' ef, ep, hp, Option.bind_some, if_pos rfl, if_neg one_ne, fitLoopM hr hm em' ef]
      · have hmod : ¬ (nI m - nI m / (2 : Int32) * (2 : Int32)) = 0 := fun q => h2m ((mod2 (by omega)).mp q)
        refine ⟨-3, _, _, _, _, ?_, ?_, Rel_found (f := 5) R (by omega)⟩
        · rw [X8_tastesThatFit, h1, Option.bind_some, if_neg one_ne, gd_nI (by omega) (by omega), cl_nI (by omega), isMissingC, if_pos hpos, Option.bind_some, if_pos rfl, gd_nI (by omega) (by omega), gn_2, em, if_neg hmod, show (5 : Int32) = nI 5 from rfl, foundC (by omega) (by omega)]; rfl
        · rw [X9_tastesBy, h2, Option.bind_some, if_neg one_ne, gd_nI (by omega) (by omega), cl_nI (by omega), ← e1, if_pos hpos, gd_nI (by omega) (by omega), gn_2, em, if_neg hmod, show (5 : Int32) = nI 5 from rfl, findsM (by omega)]; rfl
  · refine ⟨-1, gi, ga, mi, ma, ?_, ?_, R⟩
    · rw [X8_tastesThatFit, h1, Option.bind_some, if_pos rfl]
    · rw [X9_tastesBy, h2, Option.bind_some, if_pos rfl]
theorem st_tastes (R : Rel gi gl ga vS vF sN sF mi ml ma) (a : Int32) : ∃ r gi' ga' mi' ma', X8_tastes sN sF a gi ga = some (r, gi', ga') ∧ X9_tastes a mi ma = some (r, mi', ma') ∧ Rel gi' gl ga' vS vF sN sF mi' ml ma' := by
  obtain ⟨r, gi', ga', mi', ma', h1, h2, h3⟩ := st_fit R a (more := 0) (by omega)
  exact ⟨r, gi', ga', mi', ma', by rw [X8_tastes, show X8_tastesThatFit sN sF a 0 gi ga = _ from h1]; rfl, by rw [X9_tastes, show X9_tastesBy a 0 mi ma = _ from h2]; rfl, h3⟩
theorem st_sour (R : Rel gi gl ga vS vF sN sF mi ml ma) (a : Int32) : ∃ r gi' ga' mi' ma', X8_sour sN sF a gi ga = some (r, gi', ga') ∧ X9_sour a mi ma = some (r, mi', ma') ∧ Rel gi' gl ga' vS vF sN sF mi' ml ma' := by
  obtain ⟨r, gi', ga', mi', ma', h1, h2, h3⟩ := st_fit R a (more := 1) (by omega)
  exact ⟨r, gi', ga', mi', ma', by rw [X8_sour, show X8_tastesThatFit sN sF a 1 gi ga = _ from h1]; rfl, by rw [X9_sour, show X9_tastesBy a 1 mi ma = _ from h2]; rfl, h3⟩
theorem st_asked (R : Rel gi gl ga vS vF sN sF mi ml ma) : ∃ r, X8_asked gi = some r ∧ X9_asked mi = some r := ⟨gi 1, rfl, by rw [X9_asked, R.2.2.1.2.1]⟩
theorem st_upper (R : Rel gi gl ga vS vF sN sF mi ml ma) : ∃ r, X8_upper gl = some r ∧ X9_upper ml = some r := ⟨gl 0, rfl, by rw [X9_upper, R.2.2.1.2.2.1]⟩
theorem st_lower (R : Rel gi gl ga vS vF sN sF mi ml ma) : ∃ r, X8_lower gl = some r ∧ X9_lower ml = some r := ⟨gl 1, rfl, by rw [X9_lower, R.2.2.1.2.2.2.1]⟩
theorem st_finding (R : Rel gi gl ga vS vF sN sF mi ml ma) : ∃ r, X8_finding gi = some r ∧ X9_finding mi = some r := ⟨gi 0, rfl, by rw [X9_finding, R.2.2.1.1]⟩
theorem st_findings (R : Rel gi gl ga vS vF sN sF mi ml ma) (a : Int32) : ∃ r, X8_findings ga a = some r ∧ X9_findings ma a = some r := by
  rw [X9_findings, inI a 1 5 1 5 rfl rfl, Option.bind_some, X8_findings]
  simp only [Int32.lt_iff_toInt_lt, Int32.le_iff_toInt_le, show (1 : Int32).toInt = 1 from rfl, show (5 : Int32).toInt = 5 from rfl]
  by_cases h : 1 ≤ a.toInt ∧ a.toInt ≤ 5
  · obtain ⟨f, hf, rfl⟩ := toI_ex (x := a) (N := 6) (by omega) (by omega)
    rw [if_pos h, if_neg (by omega), if_pos h.2, if_neg one_ne, gd_nI (by omega) (by omega), gd_nI (by omega) (by omega), cl_nI (by omega), R.2.2.1.2.2.2.2 f hf]
    exact ⟨_, rfl, rfl⟩
  · rw [if_neg h, if_pos rfl]
    refine ⟨-1, ?_, rfl⟩
    split
    · rfl
    · rw [if_neg (by omega)]
end
