/-! gold -/
/-- what one gets of feathers that are dealt -/
def dv (p : Nat → Bool) (P : Nat) (v : Int32) (x : Nat) : Int32 := if (v - v / nI (cnt p P) * nI (cnt p P)) ≤ nI (cnt p x) then v / nI (cnt p P) + 0 else v / nI (cnt p P) + 1
def DL (p : Nat → Bool) (P : Nat) (v : Int32) (G : Nat → Int32) (i : Nat) : Nat → Int32 := fun x => if x < i ∧ p x = true then dv p P v x else G x
theorem DL_0 (p : Nat → Bool) (P : Nat) (v : Int32) (G : Nat → Int32) : DL p P v G 0 = G := by
  funext x; unfold DL; rw [if_neg (by omega)]
theorem DL_s {p : Nat → Bool} {P : Nat} {v : Int32} {G : Nat → Int32} {i : Nat} (h : p i = true) : upd (DL p P v G i) i (dv p P v i) = DL p P v G (i + 1) := by
  funext x; unfold upd DL
  by_cases e : x = i
  · rw [if_pos e, if_pos ⟨by omega, by rw [e]; exact h⟩, e]
  · rw [if_neg e]
    by_cases q : x < i ∧ p x = true
    · rw [if_pos q, if_pos ⟨by omega, q.2⟩]
    · rw [if_neg q, if_neg (fun w => q ⟨by omega, w.2⟩)]
theorem DL_n {p : Nat → Bool} {P : Nat} {v : Int32} {G : Nat → Int32} {i : Nat} (h : p i = false) : DL p P v G (i + 1) = DL p P v G i := by
  funext x; unfold DL
  by_cases q : x < i ∧ p x = true
  · rw [if_pos q, if_pos ⟨by omega, q.2⟩]
  · rw [if_neg q, if_neg]
    intro w
    have : x = i := by
      have := w.1
      by_cases e : x < i
      · exact absurd ⟨e, w.2⟩ q
      · omega
    rw [this, h] at w
    exact absurd w.2 (by decide)
theorem cnt_pos {p : Nat → Bool} {i n : Nat} (hi : i < n) (h : p i = true) : cnt p n ≠ 0 := fun q => by
  have := cnt_0.mp q i hi
  rw [h] at this; exact absurd this (by decide)
theorem cnt_y {p : Nat → Bool} {i : Nat} (h : p i = true) : cnt p (i + 1) = cnt p i + 1 := by rw [cnt, if_pos h]
theorem cnt_n {p : Nat → Bool} {i : Nat} (h : p i = false) : cnt p (i + 1) = cnt p i := by rw [cnt, h]; rfl
section
variable {P n : Nat} {k t l h a : Nat → Int32} {d : Int32} {vS : Nat → Nat → Int32} {vF : Nat → Nat → Nat → Int32} {D : Nat → Nat} {mi : Nat → Int32} {ma : Nat → Nat → Int32}
variable {gi : Nat → Int32} {gl : Nat → Int64} {ga : Nat → Nat → Int32} {sN : Nat → Int32} {sF : Nat → Nat → Int32} {ml : Nat → Int64}
theorem dealC (c : CV P k t l h a d vS vF) (o : OKV P k t h a D) {j : Nat} (hj : j < 6) (es : sN j = nI P) {y : Int32} (hy : y ≠ -9) (v : Int32) (sF : Nat → Nat → Int32) : X1_deal vS vF sN j y v sF = some (va_up sF j (DL (HS h y) P v (sF j) P)) := by
  have h7 := o.1
  have hb := bset_lt7 (p := HS h y) h7
  have hc7 : cnt (HS h y) P ≤ 7 := Nat.le_trans (cnt_le _ _) h7
  have hl : sL j = 40 := by simp [sL, hj]
  rw [X1_deal, hangersC c o hy, Option.bind_some, bitc _ hb, Option.bind_some, pcn_bset h7]
  have key : ∀ q i n, i + q = P → q < n → X1_deal_20 vS vF sN j n v (nI (bset (HS h y) P)) (nI (cnt (HS h y) P)) (nI (cnt (HS h y) i)) (nI i) (va_up sF j (DL (HS h y) P v (sF j) i)) = some (va_up sF j (DL (HS h y) P v (sF j) P)) := by
    intro q
    induction q with
    | zero =>
      intro i n e1 e2
      obtain ⟨n, rfl⟩ : ∃ z, n = z + 1 := ⟨n - 1, by omega⟩
      have : i = P := by omega
      subst this
      rw [X1_deal_20, c.1, if_pos (nI_le (Nat.le_refl _) (by omega))]
    | succ q ih =>
      intro i n e1 e2
      obtain ⟨n, rfl⟩ : ∃ z, n = z + 1 := ⟨n - 1, by omega⟩
      have hi : i < P := by omega
      have hx : 0 ≤ (nI i).toInt ∧ (nI i).toInt < P := by rw [toI_nI (by omega)]; omega
      rw [X1_deal_20, c.1, if_neg (nI_ge hi (by omega)), hasC (m := P) (by omega) es, if_pos hx, Option.bind_some, if_neg one_ne, sh_bit _ hb i (by omega), bset_bit, nI_1, nI_1]
      cases hp : HS h y i with
      | false =>
        have e := ih (i + 1) n (by omega) (by omega)
        rw [DL_n hp, cnt_n hp] at e
        rw [e]
        simp
      | true =>
        have e := ih (i + 1) n (by omega) (by omega)
        have c0 := cnt_pos hi hp
        rw [if_neg (show ¬ nI (cnt (HS h y) P) ≤ 0 from (nI_ge (show 0 < cnt (HS h y) P by omega) (by omega) : ¬ nI (cnt (HS h y) P) ≤ nI 0)), if_neg (by simp [hi]), gn_no (nI_ne0 (by omega) (by omega)), gn_no (nI_ne0 (by omega) (by omega)), gn_no (nI_ne0 (by omega) (by omega)), hl, gd_nI (by omega) (by omega), gd_nI (by omega) (by omega), cl_nI (by omega), lt_, lt_, up_at, up_up, up_up]
        rw [← DL_s hp, cnt_y hp, dv] at e
        by_cases q1 : (v - v / nI (cnt (HS h y) P) * nI (cnt (HS h y) P)) ≤ nI (cnt (HS h y) i)
        · rw [if_pos q1] at e ⊢; exact e
        · rw [if_neg q1] at e ⊢; exact e
  have := key P 0 500 (by omega) (by omega)
  rw [DL_0, up_id] at this
  exact this
theorem dealM (m : MV P k t l h a d mi ma) (o : OKV P k t h a D) {p : Nat → Bool} (v : Int32) (ma : Nat → Nat → Int32) : X9_deal mi v (nI (bset p P)) ma = some (va_up ma 28 (DL p P v (ma 28) P)) := by
  have h7 := o.1
  have hb := bset_lt7 (p := p) h7
  have hc7 : cnt p P ≤ 7 := Nat.le_trans (cnt_le _ _) h7
  rw [X9_deal, bitsM _ hb, Option.bind_some, pcn_bset h7]
  have key : ∀ q i n, i + q = P → q < n → X9_deal_11 mi n v (nI (bset p P)) (nI (cnt p P)) (nI (cnt p i)) (nI i) (va_up ma 28 (DL p P v (ma 28) i)) = some (va_up ma 28 (DL p P v (ma 28) P)) := by
    intro q
    induction q with
    | zero =>
      intro i n e1 e2
      obtain ⟨n, rfl⟩ : ∃ z, n = z + 1 := ⟨n - 1, by omega⟩
      have : i = P := by omega
      subst this
      rw [X9_deal_11, m.1, if_pos (nI_le (Nat.le_refl _) (by omega))]
    | succ q ih =>
      intro i n e1 e2
      obtain ⟨n, rfl⟩ : ∃ z, n = z + 1 := ⟨n - 1, by omega⟩
      have hi : i < P := by omega
      rw [X9_deal_11, m.1, if_neg (nI_ge hi (by omega)), hasM _ hb i (by omega), bset_bit, Option.bind_some, nI_1, nI_1]
      cases hp : p i with
      | false =>
        have e := ih (i + 1) n (by omega) (by omega)
        rw [DL_n hp, cnt_n hp] at e
        rw [if_pos (by simp)]
        exact e
      | true =>
        have e := ih (i + 1) n (by omega) (by omega)
        have c0 := cnt_pos hi hp
        rw [if_neg (by simp [hi]), gn_no (nI_ne0 (by omega) (by omega)), gn_no (nI_ne0 (by omega) (by omega)), gd_nI (by omega) (by omega), gd_nI (by omega) (by omega), cl_nI (by omega), lt_, lt_, up_at, up_up, up_up]
        rw [← DL_s hp, cnt_y hp, dv] at e
        by_cases q1 : (v - v / nI (cnt p P) * nI (cnt p P)) ≤ nI (cnt p i)
        · rw [if_pos q1] at e ⊢; exact e
        · rw [if_neg q1] at e ⊢; exact e
  have := key P 0 500 (by omega) (by omega)
  rw [DL_0, up_id] at this
  exact this
/-- nothing dealt to some who have nothing -/
theorem DL_none {p : Nat → Bool} {G : Nat → Int32} (hP : P ≤ 7) (hz : ∀ x, x < P → p x = true → G x = 0) : DL p P 0 G P = G := by
  funext x; unfold DL
  by_cases q : x < P ∧ p x = true
  · have c0 := cnt_pos q.1 q.2
    have c7 : cnt p P ≤ 7 := Nat.le_trans (cnt_le _ _) hP
    have c8 : cnt p x ≤ 7 := Nat.le_trans (cnt_le _ _) (by omega)
    rw [if_pos q, hz x q.1 q.2, dv, show (0 : Int32) = nI 0 from rfl, pk_div (by omega) (by omega) (by omega), Nat.zero_div, pk_mul, Nat.zero_mul, pk_sub (by omega), if_pos (nI_le (by omega) (by omega)), nI_add]
  · rw [if_neg q]
/-- one at a DEPTH deals on -/
def GS (P : Nat) (h : Nat → Int32) (D : Nat → Nat) (dd x : Nat) (G : Nat → Int32) : Nat → Int32 := if D x = dd ∧ cnt (HS h (nI x)) P ≠ 0 ∧ ¬ G x ≤ 1 then upd (DL (HS h (nI x)) P (G x - 1) G P) x 1 else G
def GD (P : Nat) (h : Nat → Int32) (D : Nat → Nat) (dd : Nat) : Nat → (Nat → Int32) → Nat → Int32
  | 0, G => G
  | n + 1, G => GS P h D dd n (GD P h D dd n G)
def GA (P : Nat) (h : Nat → Int32) (D : Nat → Nat) : Nat → (Nat → Int32) → Nat → Int32
  | 0, G => G
  | n + 1, G => GD P h D (n + 1) P (GA P h D n G)
theorem dealDC (c : CV P k t l h a d vS vF) (o : OKV P k t h a D) {j : Nat} (hj : j < 6) (es : sN j = nI P) {dd : Nat} (hdd : dd ≤ 7) (sF : Nat → Nat → Int32) : X1_dealAtDepth vS vF sN j (nI dd) sF = some (va_up sF j (GD P h D dd P (sF j))) := by
  have h7 := o.1
  have hl : sL j = 40 := by simp [sL, hj]
  rw [X1_dealAtDepth]
  have key : ∀ q i n, i + q = P → q < n → X1_dealAtDepth_2 vS vF sN j n (nI dd) (nI i) (va_up sF j (GD P h D dd i (sF j))) = some (va_up sF j (GD P h D dd P (sF j))) := by
    intro q
    induction q with
    | zero =>
      intro i n e1 e2
      obtain ⟨n, rfl⟩ : ∃ z, n = z + 1 := ⟨n - 1, by omega⟩
      have : i = P := by omega
      subst this
      rw [X1_dealAtDepth_2, c.1, if_pos (nI_le (Nat.le_refl _) (by omega))]
    | succ q ih =>
      intro i n e1 e2
      obtain ⟨n, rfl⟩ : ∃ z, n = z + 1 := ⟨n - 1, by omega⟩
      have hi : i < P := by omega
      have d7 := o.d7 hi
      have e := ih (i + 1) n (by omega) (by omega)
      rw [GD, GS] at e
      have hx : 0 ≤ (nI i).toInt ∧ (nI i).toInt < P := by rw [toI_nI (by omega)]; omega
      rw [X1_dealAtDepth_2, c.1, if_neg (nI_ge hi (by omega)), depthC c o hi, Option.bind_some, hangersC c o (nI_ne9 (by omega)).1, Option.bind_some]
      have z0 : X1_dealAtDepth_32 vS vF sN j (X1_dealAtDepth_2 vS vF sN j n) (nI dd) (nI i) 0 (va_up sF j (GD P h D dd i (sF j))) = X1_dealAtDepth_2 vS vF sN j n (nI dd) (nI (i + 1)) (va_up sF j (GD P h D dd i (sF j))) := by
        rw [X1_dealAtDepth_32, if_pos rfl, nI_1]
      by_cases k1 : D i = dd
      · rw [if_pos (by rw [k1])]
        by_cases k2 : cnt (HS h (nI i)) P = 0
        · rw [if_pos ((nI_b0 h7 _).mpr k2), z0]
          rw [if_neg (fun w => w.2.1 k2)] at e
          exact e
        · rw [if_neg (fun w => k2 ((nI_b0 h7 _).mp w)), X1_dealAtDepth_32, if_neg one_ne, hasC (m := P) (by omega) es, if_pos hx, Option.bind_some, if_neg one_ne, hl, gd_nI (by omega) (by omega), gd_nI (by omega) (by omega), cl_nI (by omega), up_at, nI_1]
          by_cases k3 : GD P h D dd i (sF j) i ≤ 1
          · rw [if_neg (fun w => w.2.2 k3)] at e
            rw [if_pos k3]; exact e
          · rw [if_pos ⟨k1, k2, k3⟩] at e
            rw [if_neg k3, dealC c o hj es (nI_ne9 (by omega)).1, Option.bind_some, gd_nI (by omega) (by omega), lt_, up_at, up_at, up_up, up_up]
            exact e
      · rw [if_neg (fun w => k1 ((nI_eq (by omega) (by omega)).mp w)), z0]
        rw [if_neg (fun w => k1 w.1)] at e
        exact e
  have := key P 0 500 (by omega) (by omega)
  rw [GD, up_id] at this
  exact this
theorem goldC (c : CV P k t l h a d vS vF) (o : OKV P k t h a D) {j : Nat} (hj : j < 6) (es : sN j = nI P) (sF : Nat → Nat → Int32) : X8_gold_68 vS vF 500 (nI j) 1 sN sF = some (0, sN, va_up sF j (GA P h D 7 (sF j))) := by
  have key : ∀ q i n, i + q = 7 → q < n → X8_gold_68 vS vF n (nI j) (nI (i + 1)) sN (va_up sF j (GA P h D i (sF j))) = some (0, sN, va_up sF j (GA P h D 7 (sF j))) := by
    intro q
    induction q with
    | zero =>
      intro i n e1 e2
      obtain ⟨n, rfl⟩ : ∃ z, n = z + 1 := ⟨n - 1, by omega⟩
      have : i = 7 := by omega
      subst this
      rw [X8_gold_68, if_pos (by decide)]
    | succ q ih =>
      intro i n e1 e2
      obtain ⟨n, rfl⟩ : ∃ z, n = z + 1 := ⟨n - 1, by omega⟩
      have e := ih (i + 1) n (by omega) (by omega)
      rw [X8_gold_68, if_neg (show ¬ (7 : Int32) < nI (i + 1) from (nI_nlt (show i + 1 ≤ 7 by omega) (by omega) : ¬ nI 7 < nI (i + 1))), gd_nI hj (by omega), cl_nI (by omega), dealDC c o hj es (by omega), Option.bind_some, up_at, up_up, nI_1]
      rw [GA] at e
      exact e
  have := key 7 0 500 (by omega) (by omega)
  rw [GA, up_id] at this
  exact this
end
