/-! the small language of villages -/
def kd (c : Int32) : Option Nat := if c = 111 then some 0 else if c = 103 then some 1 else if c = 115 then some 2 else if c = 99 then some 3 else if c = 112 then some 4 else if c = 107 then some 5 else none
def kC (o : Option Nat) : Int32 := match o with
  | some z => nI z
  | none => -9
def kM (o : Option Nat) : Int32 := match o with
  | some z => nI z
  | none => -1
theorem kd6 {c : Int32} {z : Nat} (h : kd c = some z) : z < 6 := by
  unfold kd at h
  by_cases e1 : c = 111
  · rw [if_pos e1] at h; cases h; decide
  · rw [if_neg e1] at h
    by_cases e2 : c = 103
    · rw [if_pos e2] at h; cases h; decide
    · rw [if_neg e2] at h
      by_cases e3 : c = 115
      · rw [if_pos e3] at h; cases h; decide
      · rw [if_neg e3] at h
        by_cases e4 : c = 99
        · rw [if_pos e4] at h; cases h; decide
        · rw [if_neg e4] at h
          by_cases e5 : c = 112
          · rw [if_pos e5] at h; cases h; decide
          · rw [if_neg e5] at h
            by_cases e6 : c = 107
            · rw [if_pos e6] at h; cases h; decide
            · rw [if_neg e6] at h; cases h
theorem kd_no {c : Int32} (h : c.toInt < 99) : kd c = none := by
  unfold kd
  rw [if_neg (fun e => by rw [e] at h; exact absurd h (by decide)), if_neg (fun e => by rw [e] at h; exact absurd h (by decide)), if_neg (fun e => by rw [e] at h; exact absurd h (by decide)), if_neg (fun e => by rw [e] at h; exact absurd h (by decide)), if_neg (fun e => by rw [e] at h; exact absurd h (by decide)), if_neg (fun e => by rw [e] at h; exact absurd h (by decide))]
theorem ofl_step (c : Int32) {i : Nat} (hi : i < 6) (n : Nat) : X2_ofLetter_2 (n + 1) c (nI i) = if gLet i = c then some (nI i) else X2_ofLetter_2 n c (nI (i + 1)) := by
  rw [X2_ofLetter_2, if_neg (show ¬ (6 : Int32) ≤ nI i from (nI_ge hi (by omega) : ¬ nI 6 ≤ nI i)), gd_nI hi (by omega), cl_nI (by omega), nI_1]
theorem ofLetterC (c : Int32) : X2_ofLetter c = some (kC (kd c)) := by
  show X2_ofLetter_2 (493 + 1 + 1 + 1 + 1 + 1 + 1 + 1) c (nI 0) = _
  rw [ofl_step c (by omega), ofl_step c (by omega), ofl_step c (by omega), ofl_step c (by omega), ofl_step c (by omega), ofl_step c (by omega), X2_ofLetter_2, if_pos (show (6 : Int32) ≤ nI (0 + 1 + 1 + 1 + 1 + 1 + 1) by decide)]
  rw [show gLet 0 = 111 from rfl, show gLet (0 + 1) = 103 from rfl, show gLet (0 + 1 + 1) = 115 from rfl, show gLet (0 + 1 + 1 + 1) = 99 from rfl, show gLet (0 + 1 + 1 + 1 + 1) = 112 from rfl, show gLet (0 + 1 + 1 + 1 + 1 + 1) = 107 from rfl]
  unfold kd
  by_cases e1 : c = 111
  · rw [if_pos e1.symm, if_pos e1]; rfl
  · rw [if_neg (fun e => e1 e.symm), if_neg e1]
    by_cases e2 : c = 103
    · rw [if_pos e2.symm, if_pos e2]; rfl
    · rw [if_neg (fun e => e2 e.symm), if_neg e2]
      by_cases e3 : c = 115
      · rw [if_pos e3.symm, if_pos e3]; rfl
      · rw [if_neg (fun e => e3 e.symm), if_neg e3]
        by_cases e4 : c = 99
        · rw [if_pos e4.symm, if_pos e4]; rfl
        · rw [if_neg (fun e => e4 e.symm), if_neg e4]
          by_cases e5 : c = 112
          · rw [if_pos e5.symm, if_pos e5]; rfl
          · rw [if_neg (fun e => e5 e.symm), if_neg e5]
            by_cases e6 : c = 107
            · rw [if_pos e6.symm, if_pos e6]; rfl
            · rw [if_neg (fun e => e6 e.symm), if_neg e6]; rfl
theorem kindOfM (c : Int32) : X9_kindOf c = some (kM (kd c)) := by
  unfold X9_kindOf kd
  by_cases e1 : c = 111
  · rw [if_pos e1, if_pos e1]; rfl
  · rw [if_neg e1, if_neg e1]
    by_cases e2 : c = 103
    · rw [if_pos e2, if_pos e2]; rfl
    · rw [if_neg e2, if_neg e2]
      by_cases e3 : c = 115
      · rw [if_pos e3, if_pos e3]; rfl
      · rw [if_neg e3, if_neg e3]
        by_cases e4 : c = 99
        · rw [if_pos e4, if_pos e4]; rfl
        · rw [if_neg e4, if_neg e4]
          by_cases e5 : c = 112
          · rw [if_pos e5, if_pos e5]; rfl
          · rw [if_neg e5, if_neg e5]
            by_cases e6 : c = 107
            · rw [if_pos e6, if_pos e6]; rfl
            · rw [if_neg e6, if_neg e6]; rfl
theorem sub48 {c : Int32} (h1 : -128 ≤ c.toInt) (h2 : c.toInt ≤ 127) : (c - 48).toInt = c.toInt - 48 := by
  rw [Int32.toInt_sub, show (48 : Int32).toInt = 48 from rfl]
  exact Int.bmod_eq_of_le (by omega) (by omega)
def ok1 (c : Int32) : Prop := 49 ≤ c.toInt ∧ c.toInt ≤ 56
def ok0 (c : Int32) : Prop := 48 ≤ c.toInt ∧ c.toInt ≤ 57
theorem canStand1 {c : Int32} (h1 : -128 ≤ c.toInt) (h2 : c.toInt ≤ 127) : (ok1 c → X5_canStand c (nI 1) = some 1) ∧ (¬ ok1 c → X5_canStand c (nI 1) = some 0) := by
  have e := sub48 h1 h2
  unfold ok1
  rw [X5_canStand, if_neg (show ¬ nI 1 = 0 by decide), if_pos (show nI 1 = 1 from rfl)]
  simp only [Int32.lt_iff_toInt_lt, e, show (1 : Int32).toInt = 1 from rfl, show (8 : Int32).toInt = 8 from rfl]
  constructor
  · intro h; rw [if_neg (by omega), if_neg (by omega)]
  · intro h
    split
    · rfl
    · rw [if_pos (by omega)]
theorem canStand0 {c : Int32} (h1 : -128 ≤ c.toInt) (h2 : c.toInt ≤ 127) {w : Nat} (hw : 2 ≤ w) (hw4 : w ≤ 4) : (ok0 c → X5_canStand c (nI w) = some 1) ∧ (¬ ok0 c → X5_canStand c (nI w) = some 0) := by
  have e := sub48 h1 h2
  unfold ok0
  rw [X5_canStand, if_neg (nI_ne0 (by omega) (by omega)), if_neg (show ¬ nI w = 1 from fun q => by have := (nI_eq (a := w) (b := 1) (by omega) (by omega)).mp q; omega)]
  simp only [Int32.lt_iff_toInt_lt, e, show (0 : Int32).toInt = 0 from rfl, show (9 : Int32).toInt = 9 from rfl]
  constructor
  · intro h; rw [if_neg (by omega), if_neg (by omega)]
  · intro h
    split
    · rfl
    · rw [if_pos (by omega)]
def M3 (mi : Nat → Int32) (i e p : Int32) : Nat → Int32 := va_up (va_up (va_up mi 5 i) 6 e) 7 p
theorem M3_5 (mi : Nat → Int32) (i e p : Int32) : M3 mi i e p 5 = i := rfl
theorem M3_6 (mi : Nat → Int32) (i e p : Int32) : M3 mi i e p 6 = e := rfl
theorem M3_7 (mi : Nat → Int32) (i e p : Int32) : M3 mi i e p 7 = p := rfl
theorem M3_lo (mi : Nat → Int32) (i e p : Int32) {q : Nat} (h : q < 5) : M3 mi i e p q = mi q := by
  unfold M3; rw [up_ne _ _ (by omega), up_ne _ _ (by omega), up_ne _ _ (by omega)]
theorem M3_u5 (mi : Nat → Int32) (i e p v : Int32) : va_up (M3 mi i e p) 5 v = M3 mi v e p := by
  funext j; unfold M3 va_up
  by_cases h5 : j = 5
  · subst h5; rfl
  · by_cases h6 : j = 6
    · subst h6; rfl
    · by_cases h7 : j = 7
      · subst h7; rfl
      · simp [h5, h6, h7]
theorem M3_u6 (mi : Nat → Int32) (i e p v : Int32) : va_up (M3 mi i e p) 6 v = M3 mi i v p := by
  funext j; unfold M3 va_up
  by_cases h5 : j = 5
  · subst h5; rfl
  · by_cases h6 : j = 6
    · subst h6; rfl
    · by_cases h7 : j = 7
      · subst h7; rfl
      · simp [h5, h6, h7]
theorem M3_u7 (mi : Nat → Int32) (i e p v : Int32) : va_up (M3 mi i e p) 7 v = M3 mi i e v := by
  unfold M3; rw [up_up]
def TX (r m : Nat) (f : Nat → Int32) (ma : Nat → Nat → Int32) : Prop := ma 12 r = nI m ∧ ∀ x, x < 60 → ma 13 (60 * r + x) = f x
def bt (f : Nat → Int32) (m i : Nat) : Int32 := if m ≤ i then -1000 else f i
theorem bt_lt {f : Nat → Int32} {m i : Nat} (h : i < m) : bt f m i = f i := by rw [bt, if_neg (by omega)]
theorem bt_ok0 {f : Nat → Int32} {m i : Nat} (h : ok0 (bt f m i)) : i < m ∧ ∃ b, b ≤ 9 ∧ f i = nI (48 + b) := by
  rcases Nat.lt_or_ge i m with q | q
  · rw [bt_lt q] at h
    obtain ⟨z, hz, e⟩ := toI_ex (x := f i) (N := 58) (by omega) ⟨by have := h.1; omega, by have := h.2; omega⟩
    have h1 := h.1
    rw [e, toI_nI (by omega)] at h1
    exact ⟨q, z - 48, by omega, by rw [e]; congr 1; omega⟩
  · rw [bt, if_pos q] at h
    exact absurd h.1 (by decide)
theorem bt_ok1 {f : Nat → Int32} {m i : Nat} (h : ok1 (bt f m i)) : i < m ∧ ∃ b, 1 ≤ b ∧ b ≤ 8 ∧ f i = nI (48 + b) := by
  rcases Nat.lt_or_ge i m with q | q
  · rw [bt_lt q] at h
    obtain ⟨z, hz, e⟩ := toI_ex (x := f i) (N := 57) (by omega) ⟨by have := h.1; omega, by have := h.2; omega⟩
    have h1 := h.1
    rw [e, toI_nI (by omega)] at h1
    exact ⟨q, z - 48, by omega, by omega, by rw [e]; congr 1; omega⟩
  · rw [bt, if_pos q] at h
    exact absurd h.1 (by decide)
theorem sub48N (b : Nat) : nI (48 + b) - 48 = nI b := by
  rw [show (48 : Int32) = nI 48 from rfl, pk_sub (by omega)]; congr 1; omega
section
variable {r m p : Nat} {f : Nat → Int32} {mi : Nat → Int32} {ma : Nat → Nat → Int32} {sN : Nat → Int32} {sF : Nat → Nat → Int32} {j : Nat}
theorem byteM (hr : r < 4) (hm : m ≤ 60) (T : TX r m f ma) {i : Nat} (hi : i ≤ m) (e q : Int32) : X9_byteOf (M3 mi (nI i) e q) ma (nI r) = some (bt f m i) := by
  rw [X9_byteOf, gd_nI hr (by omega), cl_nI (by omega), M3_5, T.1, bt]
  by_cases h : m ≤ i
  · rw [if_pos (nI_le h (by omega)), if_pos h]
  · rw [if_neg (nI_ge (by omega) (by omega)), if_neg h, show (60 : Int32) * nI r + nI i = nI (60 * r + i) from mixN 60 r i, gd_nI (by omega) (by omega), cl_nI (by omega), T.2 i (by omega)]
theorem fig18 (hr : r < 4) (hm : m ≤ 60) (T : TX r m f ma) {i : Nat} (hi : i ≤ m) (q : Int32) : (ok1 (bt f m i) → X9_figure ma (nI r) 1 8 (M3 mi (nI i) (-1) q) = some (bt f m i - 48, M3 mi (nI (i + 1)) (-1) q)) ∧ (¬ ok1 (bt f m i) → X9_figure ma (nI r) 1 8 (M3 mi (nI i) (-1) q) = some (0, M3 mi (nI i) (nI i) q)) := by
  unfold ok1
  rw [X9_figure, byteM hr hm T hi, Option.bind_some, M3_6, if_pos (show (-1 : Int32) < 0 by decide), inI (bt f m i) _ _ 49 56 (by decide) (by decide), Option.bind_some, M3_5, M3_u5, M3_u6, lt_, lt_, nI_1]
  constructor
  · intro h; rw [if_pos h, if_neg one_ne]
  · intro h; rw [if_neg h, if_pos rfl]
theorem fig09 (hr : r < 4) (hm : m ≤ 60) (T : TX r m f ma) {i : Nat} (hi : i ≤ m) (q : Int32) : (ok0 (bt f m i) → X9_figure ma (nI r) 0 9 (M3 mi (nI i) (-1) q) = some (bt f m i - 48, M3 mi (nI (i + 1)) (-1) q)) ∧ (¬ ok0 (bt f m i) → X9_figure ma (nI r) 0 9 (M3 mi (nI i) (-1) q) = some (0, M3 mi (nI i) (nI i) q)) := by
  unfold ok0
  rw [X9_figure, byteM hr hm T hi, Option.bind_some, M3_6, if_pos (show (-1 : Int32) < 0 by decide), inI (bt f m i) _ _ 48 57 (by decide) (by decide), Option.bind_some, M3_5, M3_u5, M3_u6, lt_, lt_, nI_1]
  constructor
  · intro h; rw [if_pos h, if_neg one_ne]
  · intro h; rw [if_neg h, if_pos rfl]
theorem figE (hr : r < 4) (hm : m ≤ 60) (T : TX r m f ma) {i y : Nat} (hi : i ≤ m) (hy : y ≤ 60) (a b q : Int32) : X9_figure ma (nI r) a b (M3 mi (nI i) (nI y) q) = some (0, M3 mi (nI i) (nI y) q) := by
  rw [X9_figure, byteM hr hm T hi, Option.bind_some, M3_6, if_neg (nI_pos (by omega))]
theorem r73end (hp : p < 7) (n : Nat) (v1 v3 i e : Int32) : X9_readOne_73 (n + 1) v1 v3 (nI 3) (M3 mi i e (nI p)) ma = some (M3 mi i e (nI (p + 1)), va_up ma 27 (upd (ma 27) p v3)) := by
  rw [X9_readOne_73, if_pos (show (3 : Int32) ≤ nI 3 by decide), M3_7, gd_nI hp (by omega), cl_nI (by omega), lt_, lt_, M3_u7, nI_1]
theorem r73ok (hr : r < 4) (hm : m ≤ 60) (T : TX r m f ma) {i v s b : Nat} (hi : i < m) (hv : v < 3) (hb : b ≤ 9) (e : f i = nI (48 + b)) (n : Nat) : X9_readOne_73 (n + 1) (nI r) (nI s) (nI v) (M3 mi (nI i) (-1) (nI p)) ma = X9_readOne_73 n (nI r) (nI (10 * s + b)) (nI (v + 1)) (M3 mi (nI (i + 1)) (-1) (nI p)) ma := by
  have hb0 : bt f m i = nI (48 + b) := by rw [bt_lt hi, e]
  have ok : ok0 (bt f m i) := by rw [hb0, ok0, toI_nI (by omega)]; omega
  rw [X9_readOne_73, if_neg (show ¬ (3 : Int32) ≤ nI v from (nI_ge hv (by omega) : ¬ nI 3 ≤ nI v)), (fig09 hr hm T (by omega) _).1 ok, bd2_some, hb0, sub48N, show (10 : Int32) * nI s + nI b = nI (10 * s + b) from mixN 10 s b, nI_1]
theorem r73no (hr : r < 4) (hm : m ≤ 60) (T : TX r m f ma) {i v : Nat} (hi : i ≤ m) (hv : v < 3) (no : ¬ ok0 (bt f m i)) (s : Int32) (n : Nat) : X9_readOne_73 (n + 1) (nI r) s (nI v) (M3 mi (nI i) (-1) (nI p)) ma = X9_readOne_73 n (nI r) (10 * s + 0) (nI (v + 1)) (M3 mi (nI i) (nI i) (nI p)) ma := by
  rw [X9_readOne_73, if_neg (show ¬ (3 : Int32) ≤ nI v from (nI_ge hv (by omega) : ¬ nI 3 ≤ nI v)), (fig09 hr hm T hi _).2 no, bd2_some, nI_1]
theorem r73E (hr : r < 4) (hm : m ≤ 60) (T : TX r m f ma) (hp : p < 7) {i y : Nat} (hi : i ≤ m) (hy : y ≤ 60) : ∀ q v n (s : Int32), v + q = 3 → q < n → ∃ g, X9_readOne_73 n (nI r) s (nI v) (M3 mi (nI i) (nI y) (nI p)) ma = some (M3 mi (nI i) (nI y) (nI (p + 1)), va_up ma 27 (upd (ma 27) p g)) := by
  intro q
  induction q with
  | zero =>
    intro v n s h1 h2
    obtain ⟨n, rfl⟩ : ∃ z, n = z + 1 := ⟨n - 1, by omega⟩
    have : v = 3 := by omega
    subst this
    exact ⟨s, r73end hp n _ s _ _⟩
  | succ q ih =>
    intro v n s h1 h2
    obtain ⟨n, rfl⟩ : ∃ z, n = z + 1 := ⟨n - 1, by omega⟩
    rw [X9_readOne_73, if_neg (show ¬ (3 : Int32) ≤ nI v from (nI_ge (show v < 3 by omega) (by omega) : ¬ nI 3 ≤ nI v)), figE hr hm T hi hy, bd2_some, nI_1]
    exact ih (v + 1) n _ (by omega) (by omega)
/-- an item that is whole -/
def Itm (f : Nat → Int32) (i a g : Nat) : Prop := 1 ≤ a ∧ a ≤ 8 ∧ f (i + 1) = nI (48 + a) ∧ ∃ b c d, b ≤ 9 ∧ c ≤ 9 ∧ d ≤ 9 ∧ f (i + 2) = nI (48 + b) ∧ f (i + 3) = nI (48 + c) ∧ f (i + 4) = nI (48 + d) ∧ g = 10 * (10 * (10 * 0 + b) + c) + d
/-- an item that ends in a FAULT -/
def Flt (f : Nat → Int32) (m i y : Nat) : Prop := (y = i + 1 ∧ ¬ ok1 (bt f m (i + 1))) ∨ (y = i + 2 ∧ ok1 (bt f m (i + 1)) ∧ ¬ ok0 (bt f m (i + 2))) ∨ (y = i + 3 ∧ ok1 (bt f m (i + 1)) ∧ ok0 (bt f m (i + 2)) ∧ ¬ ok0 (bt f m (i + 3))) ∨ (y = i + 4 ∧ ok1 (bt f m (i + 1)) ∧ ok0 (bt f m (i + 2)) ∧ ok0 (bt f m (i + 3)) ∧ ¬ ok0 (bt f m (i + 4)))
theorem readOneM (hr : r < 4) (hm : m ≤ 60) (T : TX r m f ma) {i z : Nat} (hi : i < m) (hz : kd (f i) = some z) (hp : p < 7) :
    ∃ i' e t g, X9_readOne (nI r) (M3 mi (nI i) (-1) (nI p)) ma = some (M3 mi (nI i') e (nI (p + 1)), va_up (va_up (va_up ma 25 (upd (ma 25) p (nI z))) 26 (upd (ma 26) p t)) 27 (upd (ma 27) p g)) ∧ i' ≤ m ∧
      ((e = -1 ∧ i' = i + 5 ∧ ∃ a b, t = nI a ∧ g = nI b ∧ Itm f i a b) ∨ ∃ y, y ≤ m ∧ e = nI y ∧ Flt f m i y) := by
  have hz6 := kd6 hz
  have n7 : ¬ nI p = (7 : Int32) := fun q => by have := (nI_eq (a := p) (b := 7) (by omega) (by omega)).mp q; omega
  have T2 : ∀ v, TX r m f (va_up ma 25 v) := fun v => T
  have T3 : ∀ v w, TX r m f (va_up (va_up ma 25 v) 26 w) := fun v w => T
  rw [X9_readOne, byteM hr hm T (by omega), Option.bind_some, bt_lt hi, kindOfM, Option.bind_some, hz, kM, if_neg (nI_pos (by omega)), M3_7, if_neg n7, M3_5, M3_u5, nI_1, lt_, M3_7, gd_nI hp (by omega), cl_nI (by omega), lt_]
  by_cases k1 : ok1 (bt f m (i + 1))
  · obtain ⟨l1, a, a1, a8, ea⟩ := bt_ok1 k1
    rw [(fig18 hr hm (T2 _) (by omega) _).1 k1, bd2_some, gd_nI hp (by omega), lt_, bt_lt l1, ea, sub48N]
    by_cases k2 : ok0 (bt f m (i + 1 + 1))
    · obtain ⟨l2, b, b9, eb⟩ := bt_ok0 k2
      rw [show X9_readOne_73 500 (nI r) 0 0 = X9_readOne_73 (499 + 1) (nI r) (nI 0) (nI 0) from rfl, r73ok hr hm (T3 _ _) l2 (by omega) b9 eb]
      by_cases k3 : ok0 (bt f m (i + 1 + 1 + 1))
      · obtain ⟨l3, c, c9, ec⟩ := bt_ok0 k3
        rw [show X9_readOne_73 499 = X9_readOne_73 (498 + 1) from rfl, r73ok hr hm (T3 _ _) l3 (by omega) c9 ec]
        by_cases k4 : ok0 (bt f m (i + 1 + 1 + 1 + 1))
        · obtain ⟨l4, d, d9, ed⟩ := bt_ok0 k4
          rw [show X9_readOne_73 498 = X9_readOne_73 (497 + 1) from rfl, r73ok hr hm (T3 _ _) l4 (by omega) d9 ed, show X9_readOne_73 497 = X9_readOne_73 (496 + 1) from rfl, r73end hp]
          exact ⟨_, _, _, _, rfl, by omega, Or.inl ⟨rfl, rfl, a, _, rfl, rfl, a1, a8, ea, b, c, d, b9, c9, d9, eb, ec, ed, rfl⟩⟩
        · rw [show X9_readOne_73 498 = X9_readOne_73 (497 + 1) from rfl, r73no hr hm (T3 _ _) (by omega) (by omega) k4]
          obtain ⟨g, eg⟩ := r73E (p := p) (mi := mi) hr hm (T3 (upd (ma 25) p (nI z)) (upd (ma 26) p (nI a))) hp (i := i + 1 + 1 + 1 + 1) (y := i + 1 + 1 + 1 + 1) (by omega) (by omega) 0 3 497 (10 * nI (10 * (10 * 0 + b) + c) + 0) (by omega) (by omega)
          exact ⟨_, _, _, g, eg, by omega, Or.inr ⟨_, by omega, rfl, Or.inr (Or.inr (Or.inr ⟨by omega, k1, k2, k3, k4⟩))⟩⟩
      · rw [show X9_readOne_73 499 = X9_readOne_73 (498 + 1) from rfl, r73no hr hm (T3 _ _) (by omega) (by omega) k3]
        obtain ⟨g, eg⟩ := r73E (p := p) (mi := mi) hr hm (T3 (upd (ma 25) p (nI z)) (upd (ma 26) p (nI a))) hp (i := i + 1 + 1 + 1) (y := i + 1 + 1 + 1) (by omega) (by omega) 1 2 498 (10 * nI (10 * 0 + b) + 0) (by omega) (by omega)
        exact ⟨_, _, _, g, eg, by omega, Or.inr ⟨_, by omega, rfl, Or.inr (Or.inr (Or.inl ⟨by omega, k1, k2, k3⟩))⟩⟩
    · rw [show X9_readOne_73 500 (nI r) 0 0 = X9_readOne_73 (499 + 1) (nI r) (nI 0) (nI 0) from rfl, r73no hr hm (T3 _ _) (by omega) (by omega) k2]
      obtain ⟨g, eg⟩ := r73E (p := p) (mi := mi) hr hm (T3 (upd (ma 25) p (nI z)) (upd (ma 26) p (nI a))) hp (i := i + 1 + 1) (y := i + 1 + 1) (by omega) (by omega) 2 1 499 (10 * nI 0 + 0) (by omega) (by omega)
      exact ⟨_, _, _, g, eg, by omega, Or.inr ⟨_, by omega, rfl, Or.inr (Or.inl ⟨by omega, k1, k2⟩)⟩⟩
  · rw [(fig18 hr hm (T2 _) (by omega) _).2 k1, bd2_some, gd_nI hp (by omega), lt_]
    obtain ⟨g, eg⟩ := r73E (p := p) (mi := mi) hr hm (T3 (upd (ma 25) p (nI z)) (upd (ma 26) p 0)) hp (i := i + 1) (y := i + 1) (by omega) (by omega) 3 0 500 0 (by omega) (by omega)
    exact ⟨_, _, _, g, eg, by omega, Or.inr ⟨_, by omega, rfl, Or.inl ⟨rfl, k1⟩⟩⟩
theorem skipM (hr : r < 4) (hm : m ≤ 60) (T : TX r m f ma) (e q : Int32) : ∀ s i n, m - i ≤ s → i ≤ m → m - i < n → ∃ i', i ≤ i' ∧ i' ≤ m ∧ (∀ x, i ≤ x → x < i' → f x = 32) ∧ (i' = m ∨ f i' ≠ 32) ∧ X9_skip_0 ma n (nI r) (M3 mi (nI i) e q) = some (M3 mi (nI i') e q) := by
  intro s
  induction s with
  | zero =>
    intro i n h1 h2 h3
    obtain ⟨n, rfl⟩ : ∃ z, n = z + 1 := ⟨n - 1, by omega⟩
    refine ⟨i, Nat.le_refl _, h2, fun x h4 h5 => by omega, Or.inl (by omega), ?_⟩
    rw [X9_skip_0, byteM hr hm T h2, Option.bind_some, bt, if_pos (show m ≤ i by omega), if_neg (by decide)]
  | succ s ih =>
    intro i n h1 h2 h3
    obtain ⟨n, rfl⟩ : ∃ z, n = z + 1 := ⟨n - 1, by omega⟩
    rw [X9_skip_0, byteM hr hm T h2, Option.bind_some, M3_5, M3_u5, nI_1, lt_]
    rcases Nat.lt_or_ge i m with w | w
    · rw [bt_lt w]
      by_cases e32 : f i = 32
      · rw [if_pos e32]
        obtain ⟨i', g1, g2, g3, g4, g5⟩ := ih (i + 1) n (by omega) (by omega) (by omega)
        refine ⟨i', by omega, g2, fun x h4 h5 => ?_, g4, g5⟩
        by_cases ex : x = i
        · rw [ex, e32]
        · exact g3 x (by omega) h5
      · rw [if_neg e32]
        exact ⟨i, Nat.le_refl _, h2, fun x h4 h5 => by omega, Or.inr e32, rfl⟩
    · rw [bt, if_pos w, if_neg (by decide)]
      exact ⟨i, Nat.le_refl _, h2, fun x h4 h5 => by omega, Or.inl (by omega), rfl⟩
/-! the class's reader -/
theorem clBlank (hs : sN j = nI m) (hl : m ≤ sL j) (v : Int32) : ∀ e i n, (∀ x, i ≤ x → x < i + e → sF j x = 32) → i + e ≤ m → X5_faultPlace_6 sN sF j (n + e) 0 v (nI i) = X5_faultPlace_6 sN sF j n 0 v (nI (i + e)) := by
  have h6 := sL_lt j
  intro e
  induction e with
  | zero => intro i n _ _; rfl
  | succ e ih =>
    intro i n hb hi
    rw [show n + (e + 1) = (n + e) + 1 by omega, X5_faultPlace_6, hs, if_neg (nI_ge (by omega) (by omega)), gd_nI (by omega) (by omega), cl_nI (by omega), if_pos rfl, if_pos (hb i (by omega) (by omega)), nI_1, ih (i + 1) n (fun x h1 h2 => hb x (by omega) (by omega)) (by omega), show i + 1 + e = i + (e + 1) by omega]
theorem clHead (hs : sN j = nI m) (hl : m ≤ sL j) {i z : Nat} (hi : i < m) (h32 : sF j i ≠ 32) (hz : kd (sF j i) = some z) (hp : p < 7) (n : Nat) : X5_faultPlace_6 sN sF j (n + 1) 0 (nI p) (nI i) = X5_faultPlace_6 sN sF j n (nI 1) (nI p) (nI (i + 1)) := by
  have h6 := sL_lt j
  have hz6 := kd6 hz
  have n7 : ¬ nI p = (7 : Int32) := fun q => by have := (nI_eq (a := p) (b := 7) (by omega) (by omega)).mp q; omega
  rw [X5_faultPlace_6, hs, if_neg (nI_ge hi (by omega)), gd_nI (by omega) (by omega), cl_nI (by omega), if_pos rfl, if_neg h32, X5_faultPlace_36, if_neg n7, X5_canStand, if_pos rfl, ofLetterC, Option.bind_some, hz, kC, if_neg (show ¬ nI z = -9 from (nI_ne9 (by omega)).1), Option.bind_some, if_neg one_ne, if_neg (show ¬ (0 : Int32) + 1 = 5 by decide), nI_1]
  rfl
theorem clHead0 (hs : sN j = nI m) (hl : m ≤ sL j) {i : Nat} (hi : i < m) (h32 : sF j i ≠ 32) (hz : kd (sF j i) = none ∨ p = 7) (n : Nat) : X5_faultPlace_6 sN sF j (n + 1) 0 (nI p) (nI i) = some (nI i) := by
  have h6 := sL_lt j
  rw [X5_faultPlace_6, hs, if_neg (nI_ge hi (by omega)), gd_nI (by omega) (by omega), cl_nI (by omega), if_pos rfl, if_neg h32, X5_faultPlace_36]
  by_cases n7 : nI p = (7 : Int32)
  · rw [if_pos n7]
  · have hz0 : kd (sF j i) = none := hz.elim id (fun q => absurd (by rw [q]; rfl) n7)
    rw [if_neg n7, X5_canStand, if_pos rfl, ofLetterC, Option.bind_some, hz0, kC, if_pos rfl, Option.bind_some, if_pos rfl]
theorem clOk (hs : sN j = nI m) (hl : m ≤ sL j) {i w : Nat} (hi : i < m) (hw : 1 ≤ w) (hw4 : w < 4) (hc : X5_canStand (sF j i) (nI w) = some 1) (hp : p < 7) (n : Nat) : X5_faultPlace_6 sN sF j (n + 1) (nI w) (nI p) (nI i) = X5_faultPlace_6 sN sF j n (nI (w + 1)) (nI p) (nI (i + 1)) := by
  have h6 := sL_lt j
  have n7 : ¬ nI p = (7 : Int32) := fun q => by have := (nI_eq (a := p) (b := 7) (by omega) (by omega)).mp q; omega
  rw [X5_faultPlace_6, hs, if_neg (nI_ge hi (by omega)), gd_nI (by omega) (by omega), cl_nI (by omega), if_neg (nI_ne0 (by omega) (by omega)), X5_faultPlace_36, if_neg n7, hc, Option.bind_some, if_neg one_ne, nI_1, nI_1, if_neg (show ¬ nI (w + 1) = 5 from fun q => by have := (nI_eq (a := w + 1) (b := 5) (by omega) (by omega)).mp q; omega), nI_1]
theorem clOk4 (hs : sN j = nI m) (hl : m ≤ sL j) {i : Nat} (hi : i < m) (hc : X5_canStand (sF j i) (nI 4) = some 1) (hp : p < 7) (n : Nat) : X5_faultPlace_6 sN sF j (n + 1) (nI 4) (nI p) (nI i) = X5_faultPlace_6 sN sF j n 0 (nI (p + 1)) (nI (i + 1)) := by
  have h6 := sL_lt j
  have n7 : ¬ nI p = (7 : Int32) := fun q => by have := (nI_eq (a := p) (b := 7) (by omega) (by omega)).mp q; omega
  rw [X5_faultPlace_6, hs, if_neg (nI_ge hi (by omega)), gd_nI (by omega) (by omega), cl_nI (by omega), if_neg (show ¬ nI 4 = 0 by decide), X5_faultPlace_36, if_neg n7, hc, Option.bind_some, if_neg one_ne, if_pos (show nI 4 + 1 = 5 from rfl), nI_1, nI_1]
theorem clNo (hs : sN j = nI m) (hl : m ≤ sL j) {i w : Nat} (hi : i ≤ m) (hw : 1 ≤ w) (hw4 : w ≤ 4) (hc : i < m → X5_canStand (sF j i) (nI w) = some 0) (hp : p < 7) (n : Nat) : X5_faultPlace_6 sN sF j (n + 1) (nI w) (nI p) (nI i) = some (nI i) := by
  have h6 := sL_lt j
  have n7 : ¬ nI p = (7 : Int32) := fun q => by have := (nI_eq (a := p) (b := 7) (by omega) (by omega)).mp q; omega
  rcases Nat.lt_or_ge i m with q | q
  · rw [X5_faultPlace_6, hs, if_neg (nI_ge q (by omega)), gd_nI (by omega) (by omega), cl_nI (by omega), if_neg (nI_ne0 (by omega) (by omega)), X5_faultPlace_36, if_neg n7, hc q, Option.bind_some, if_pos rfl]
  · have : i = m := by omega
    subst this
    rw [X5_faultPlace_6, hs, if_pos (nI_le (Nat.le_refl _) (by omega)), if_neg (nI_ne0 (by omega) (by omega))]
end
