theorem msk_bit : ∀ s, s < 128 → ∀ x, x < 7 → (nI s &&& ((((1 : Int32) <<< ((nI x + 1) &&& 31)) - 1) ^^^ (-1 : Int32))) = nI (bset (fun i => decide (x + 1 ≤ i) && s.testBit i) 7) := by decide +kernel
theorem firstF_min {p : Nat → Bool} : ∀ n i u, i ≤ u → u < i + n → p u = true → (∀ j, i ≤ j → j < u → p j = false) → firstF p n i = some u
  | 0, i, u, h1, h2, _, _ => by omega
  | n + 1, i, u, h1, h2, h3, h4 => by
    rw [firstF]
    rcases Nat.lt_or_ge i u with w | w
    · rw [h4 i (by omega) w, if_neg (by decide)]
      exact firstF_min n (i + 1) u (by omega) (by omega) h3 (fun j a1 a2 => h4 j (by omega) a2)
    · have : i = u := by omega
      subst this; rw [if_pos h3]
/-- the lowest of some from a number on -/
theorem low_first {P : Nat} (hP : P ≤ 7) (p : Nat → Bool) {i : Nat} (hi : i ≤ P) : (firstF p (P - i) i = none ∧ bset (fun j => decide (i ≤ j) && p j) P = 0) ∨ ∃ u, u < P ∧ i ≤ u ∧ p u = true ∧ firstF p (P - i) i = some u ∧ bset (fun j => decide (i ≤ j) && p j) P ≠ 0 ∧ X9_lowest (nI (bset (fun j => decide (i ≤ j) && p j) P)) = some (nI u) := by
  by_cases e : bset (fun j => decide (i ≤ j) && p j) P = 0
  · refine Or.inl ⟨(firstF_none _ _).mpr (fun j h1 h2 => ?_), e⟩
    have := bset_0.mp e j (by omega)
    simpa [h1] using this
  · obtain ⟨u, u7, u1, u2, u3⟩ := lowM _ (bset_lt7 hP) e
    rw [bset_bit] at u2
    simp only [Bool.and_eq_true, decide_eq_true_eq] at u2
    refine Or.inr ⟨u, u2.1, u2.2.1, u2.2.2, firstF_min _ _ u u2.2.1 (by omega) u2.2.2 (fun j h1 h2 => ?_), e, u1⟩
    have := u3 j h2
    rw [bset_bit] at this
    simpa [h1, show j < P by omega] using this
/-- a list written from a place on -/
def wl (f : Nat → Int32) (m : Nat) : List Nat → Nat → Int32
  | [] => f
  | x :: L => wl (upd f m (nI x)) (m + 1) L
theorem wl_app (A B : List Nat) : ∀ (f : Nat → Int32) (m : Nat), wl f m (A ++ B) = wl (wl f m A) (m + A.length) B := by
  induction A with
  | nil => intro f m; rfl
  | cons x A ih =>
    intro f m
    show wl (upd f m (nI x)) (m + 1) (A ++ B) = wl (wl (upd f m (nI x)) (m + 1) A) (m + (A.length + 1)) B
    rw [ih, show m + 1 + A.length = m + (A.length + 1) by omega]
theorem wl_out (L : List Nat) : ∀ (f : Nat → Int32) (m q : Nat), (q < m ∨ m + L.length ≤ q) → wl f m L q = f q := by
  induction L with
  | nil => intro f m q _; rfl
  | cons x L ih =>
    intro f m q hq
    have hl : (x :: L).length = L.length + 1 := rfl
    show wl (upd f m (nI x)) (m + 1) L q = f q
    rw [ih _ _ _ (by omega), upd, if_neg (by omega)]
theorem wl_sh (L : List Nat) (c : Nat) : ∀ (f g : Nat → Int32) (m : Nat), (∀ q, q < 40 → f q = g (c + q)) → ∀ q, q < 40 → wl f m L q = wl g (c + m) L (c + q) := by
  induction L with
  | nil => intro f g m h; exact h
  | cons x L ih =>
    intro f g m h q hq
    show wl (upd f m (nI x)) (m + 1) L q = wl (upd g (c + m) (nI x)) (c + m + 1) L (c + q)
    rw [show c + m + 1 = c + (m + 1) by omega]
    refine ih _ _ _ (fun z hz => ?_) q hq
    unfold upd
    by_cases e : z = m
    · rw [if_pos e, if_pos (by omega)]
    · rw [if_neg e, if_neg (by omega), h z hz]
/-- those who HANG on one, each with all behind -/
def trL (h : Nat → Int32) (P : Nat) (rec : Int32 → List Nat) (y : Int32) : Nat → Nat → List Nat
  | 0, _ => []
  | q + 1, i => if i < P ∧ h i = y then i :: (rec (nI i) ++ trL h P rec y q (i + 1)) else trL h P rec y q (i + 1)
def trF (h : Nat → Int32) (P : Nat) : Nat → Int32 → List Nat
  | 0, _ => []
  | f + 1, y => trL h P (trF h P f) y 7 0
theorem up_id {α : Type} (f : Nat → α) (k : Nat) : va_up f k (f k) = f := by
  funext j; unfold va_up; split
  · rename_i e; rw [e]
  · rfl
theorem addS {j m : Nat} (hj : j < 6) (hm : m < 40) {sN : Nat → Int32} {sF : Nat → Nat → Int32} (e : sN j = nI m) (x : Nat) : X6_add j (nI x) sN sF = some (va_up sN j (nI (m + 1)), va_up sF j (upd (sF j) m (nI x))) := by
  have hl : sL j = 40 := by simp [sL, hj]
  rw [X6_add, hl, e, if_neg (nI_pos (by omega)), show Int32.ofNat 40 = nI 40 from rfl, if_neg (nI_ge hm (by omega)), gd_nI hm (by omega), cl_nI (by omega), lt_, lt_, nI_1]
section
variable {P n : Nat} {k t l h a : Nat → Int32} {d : Int32} {vS vS' : Nat → Nat → Int32} {vF vF' : Nat → Nat → Nat → Int32} {D D' : Nat → Nat} {mi mi' : Nat → Int32} {ma ma' : Nat → Nat → Int32}
variable {gi : Nat → Int32} {gl : Nat → Int64} {ga : Nat → Nat → Int32} {sN : Nat → Int32} {sF : Nat → Nat → Int32} {ml : Nat → Int64}
theorem addC (c : CV P k t l h a d vS vF) (o : OKV P k t h a D) {j : Nat} (hj : j < 6) : ∀ e f d, f + e = 7 → f < d → ∀ (y : Int32) (m : Nat) (sN : Nat → Int32) (sF : Nat → Nat → Int32), y ≠ -9 → sN j = nI m → m + (trF h P f y).length ≤ 40 →
    X8_addHangers vS vF j d y (nI e) sN sF = some (va_up sN j (nI (m + (trF h P f y).length)), va_up sF j (wl (sF j) m (trF h P f y))) := by
  have h7 := o.1
  have main : ∀ f e d, f + e = 7 → f < d → ∀ (y : Int32) (m : Nat) (sN : Nat → Int32) (sF : Nat → Nat → Int32), y ≠ -9 → sN j = nI m → m + (trF h P f y).length ≤ 40 →
      X8_addHangers vS vF j d y (nI e) sN sF = some (va_up sN j (nI (m + (trF h P f y).length)), va_up sF j (wl (sF j) m (trF h P f y))) := by
    intro f
    induction f with
    | zero =>
      intro e d e1 e2 y m sN sF hy em hm
      obtain ⟨d, rfl⟩ : ∃ z, d = z + 1 := ⟨d - 1, by omega⟩
      have : e = 7 := by omega
      subst this
      rw [X8_addHangers, if_neg (show ¬ nI 7 < 7 by decide)]
      show some (sN, sF) = some (va_up sN j (nI m), va_up sF j (sF j))
      rw [← em, up_id, up_id]
    | succ f ih =>
      intro e d e1 e2 y m sN sF hy em hm
      obtain ⟨d, rfl⟩ : ∃ z, d = z + 1 := ⟨d - 1, by omega⟩
      have hb := bset_lt7 (p := HS h y) h7
      rw [X8_addHangers, if_pos (show nI e < 7 from (nI_lt (show e < 7 by omega) (by omega) : _ < nI 7)), hangersC c o hy, Option.bind_some]
      have key : ∀ q i n m (sN : Nat → Int32) (sF : Nat → Nat → Int32), i + q = 7 → q < n → sN j = nI m → m + (trL h P (trF h P f) y q i).length ≤ 40 →
          X8_addHangers_17 vS vF j (X8_addHangers vS vF j d) n (nI e) (nI (bset (HS h y) P)) (nI i) sN sF = some (va_up sN j (nI (m + (trL h P (trF h P f) y q i).length)), va_up sF j (wl (sF j) m (trL h P (trF h P f) y q i))) := by
        intro q
        induction q with
        | zero =>
          intro i n m sN sF g1 g2 em hm
          obtain ⟨n, rfl⟩ : ∃ z, n = z + 1 := ⟨n - 1, by omega⟩
          have : i = 7 := by omega
          subst this
          rw [X8_addHangers_17, if_pos (show (7 : Int32) ≤ nI 7 by decide)]
          show some (sN, sF) = some (va_up sN j (nI m), va_up sF j (sF j))
          rw [← em, up_id, up_id]
        | succ q ihq =>
          intro i n m sN sF g1 g2 em hm
          obtain ⟨n, rfl⟩ : ∃ z, n = z + 1 := ⟨n - 1, by omega⟩
          rw [X8_addHangers_17, if_neg (show ¬ (7 : Int32) ≤ nI i from (nI_ge (show i < 7 by omega) (by omega) : ¬ nI 7 ≤ nI i)), sh_bit _ hb i (by omega), bset_bit, nI_1, nI_1, trL]
          rw [trL] at hm
          by_cases hc : i < P ∧ h i = y
          · rw [if_pos hc] at hm ⊢
            rw [if_neg (show ¬ (if (decide (i < P) && HS h y i) = true then (1 : Int32) else 0) = 0 by simp [HS, hc.1, hc.2])]
            have el : ∀ (A B : List Nat), (i :: (A ++ B)).length = 1 + A.length + B.length := fun A B => by simp; omega
            rw [el] at hm ⊢
            rw [addS hj (show m < 40 by omega) em, bd2_some, ih (e + 1) d (by omega) (by omega) (nI i) (m + 1) _ _ (nI_ne9 (by omega)).1 (up_at _ _ _) (by omega), bd2_some, ihq (i + 1) n (m + 1 + (trF h P f (nI i)).length) _ _ (by omega) (by omega) (up_at _ _ _) (by omega)]
            rw [up_up, up_up, up_up, up_up, up_at, up_at]
            show some (_, va_up sF j (wl (wl (upd (sF j) m (nI i)) (m + 1) (trF h P f (nI i))) (m + 1 + (trF h P f (nI i)).length) (trL h P (trF h P f) y q (i + 1)))) = some (_, va_up sF j (wl (upd (sF j) m (nI i)) (m + 1) (trF h P f (nI i) ++ trL h P (trF h P f) y q (i + 1))))
            rw [wl_app]
            congr 3
            congr 1
            omega
          · rw [if_neg hc] at hm ⊢
            rw [if_pos (show (if (decide (i < P) && HS h y i) = true then (1 : Int32) else 0) = 0 by
              rw [if_neg]; intro w
              simp only [Bool.and_eq_true, decide_eq_true_eq, HS] at w
              exact hc w), ihq (i + 1) n m sN sF (by omega) (by omega) em hm]
      exact key 7 0 500 m sN sF (by omega) (by omega) em hm
  exact fun e f d => main f e d
/-- whom one comes to, going back up -/
def upC (h : Nat → Int32) (P : Nat) : Nat → Nat → Int32
  | 0, _ => 9
  | m + 1, x => match firstF (fun j => decide (h j = h x)) (P - (x + 1)) (x + 1) with
    | some c => nI c
    | none => if h x = 9 then 9 else upC h P m (h x).toNatClampNeg
theorem sib_set {x : Nat} (h7 : P ≤ 7) (y : Int32) : bset (fun i => decide (x + 1 ≤ i) && (bset (HS h y) P).testBit i) 7 = bset (fun j => decide (x + 1 ≤ j) && decide (h j = y)) P := by
  apply Nat.eq_of_testBit_eq
  intro i
  rw [bset_bit, bset_bit, bset_bit]
  by_cases hi : i < P
  · have : i < 7 := by omega
    simp [hi, this, HS]
  · simp [hi]
theorem behind17M (m : MV P k t l h a d mi ma) (o : OKV P k t h a D) : ∀ q x n, x < P → D x = q + 1 → q + 2 < n → X9_behind_17 mi ma n (nI x) = some (upC h P (q + 1) x) := by
  have h7 := o.1
  intro q
  induction q with
  | zero =>
    intro x n hx hd hn
    obtain ⟨n, rfl⟩ : ∃ z, n = z + 2 := ⟨n - 2, by omega⟩
    have hh : h x = 9 := by
      rcases o.2.2.2.1 x hx with ⟨h1, h2⟩ | ⟨h1, h2⟩ | ⟨w, hw, h1, h2, h3⟩
      · omega
      · exact h1
      · omega
    rw [X9_behind_17, if_neg (nI_ne9 (by omega)).2, gd_nI (by omega) (by omega), cl_nI (by omega), (m.2.2 x hx).2.2.2.1, hangSetM m o, Option.bind_some, lt_, msk_bit _ (bset_lt7 h7) x (by omega), sib_set h7, upC]
    rcases low_first h7 (fun j => decide (h j = h x)) (show x + 1 ≤ P by omega) with ⟨f1, f2⟩ | ⟨u, u1, u2, u3, u4, u5, u6⟩
    · rw [f2, if_pos (show nI 0 = 0 from rfl), gd_nI (by omega) (by omega), f1]
      show _ = some (if h x = 9 then 9 else upC h P 0 (h x).toNatClampNeg)
      rw [hh, X9_behind_17, if_pos rfl, if_pos rfl]
    · have lt := bset_lt7 (p := fun j => decide (x + 1 ≤ j) && decide (h j = h x)) h7
      rw [if_neg (nI_ne0 (by omega) (by omega)), u6, Option.bind_some, u4]
  | succ q ih =>
    intro x n hx hd hn
    obtain ⟨n, rfl⟩ : ∃ z, n = z + 1 := ⟨n - 1, by omega⟩
    obtain ⟨w, hw, hh, dw, ed⟩ : ∃ y, y < P ∧ h x = nI y ∧ 1 ≤ D y ∧ D x = D y + 1 := by
      rcases o.2.2.2.1 x hx with ⟨h1, h2⟩ | ⟨h1, h2⟩ | q
      · omega
      · omega
      · exact q
    rw [X9_behind_17, if_neg (nI_ne9 (by omega)).2, gd_nI (by omega) (by omega), cl_nI (by omega), (m.2.2 x hx).2.2.2.1, hangSetM m o, Option.bind_some, lt_, msk_bit _ (bset_lt7 h7) x (by omega), sib_set h7, upC]
    rcases low_first h7 (fun j => decide (h j = h x)) (show x + 1 ≤ P by omega) with ⟨f1, f2⟩ | ⟨u, u1, u2, u3, u4, u5, u6⟩
    · rw [f2, if_pos (show nI 0 = 0 from rfl), gd_nI (by omega) (by omega), f1]
      show _ = some (if h x = 9 then 9 else upC h P (q + 1) (h x).toNatClampNeg)
      rw [hh, ih w n hw (by omega) (by omega), cl_nI (by omega), if_neg (nI_ne9 (by omega)).2]
    · have lt := bset_lt7 (p := fun j => decide (x + 1 ≤ j) && decide (h j = h x)) h7
      rw [if_neg (nI_ne0 (by omega) (by omega)), u6, Option.bind_some, u4]
/-- the first who HANGS on one from a number on, or whom one comes to -/
def fst9 (P : Nat) (h : Nat → Int32) (y : Int32) (i : Nat) (z : Int32) : Int32 := match firstF (fun j => decide (h j = y)) (P - i) i with
  | some c => nI c
  | none => z
theorem bset_ge0 (p : Nat → Bool) : bset (fun j => decide (0 ≤ j) && p j) P = bset p P := bset_cong (fun i _ => by simp)
theorem behindM (m : MV P k t l h a d mi ma) (o : OKV P k t h a D) {x : Nat} (hx : x < P) (hd : D x ≠ 0) : X9_behind mi ma (nI x) = some (fst9 P h (nI x) 0 (upC h P (D x) x)) := by
  have h7 := o.1
  have d7 := o.d7 hx
  obtain ⟨q, hq⟩ : ∃ q, D x = q + 1 := ⟨D x - 1, by omega⟩
  rw [X9_behind, hangSetM m o, Option.bind_some, show X9_behind_17 mi ma 500 (nI x) = _ from behind17M m o q x 500 hx hq (by omega), fst9, hq]
  have e := bset_ge0 (P := P) (HS h (nI x))
  rcases low_first h7 (fun j => decide (h j = nI x)) (show 0 ≤ P by omega) with ⟨f1, f2⟩ | ⟨u, u1, u2, u3, u4, u5, u6⟩
  · have : bset (HS h (nI x)) P = 0 := e.symm.trans f2
    rw [this, if_pos (show nI 0 = 0 from rfl), f1]
  · have lt := bset_lt7 (p := HS h (nI x)) h7
    have ne : bset (HS h (nI x)) P ≠ 0 := fun z => u5 (e.trans z)
    have lo : X9_lowest (nI (bset (HS h (nI x)) P)) = some (nI u) := by rw [← e]; exact u6
    rw [if_neg (nI_ne0 (by omega) (by omega)), lo, u4]; rfl
end
