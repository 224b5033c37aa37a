/-- values written from a place on -/
def wv (f : Nat → Int32) (m : Nat) : List Int32 → Nat → Int32
  | [] => f
  | x :: L => wv (upd f m x) (m + 1) L
def gt0 (L : List Int32) (x : Nat) : Int32 := L.getD x 0
theorem wv_out (L : List Int32) : ∀ (f : Nat → Int32) (m q : Nat), (q < m ∨ m + L.length ≤ q) → wv f m L q = f q := by
  induction L with
  | nil => intro f m q _; rfl
  | cons x L ih =>
    intro f m q hq
    have hl : (x :: L).length = L.length + 1 := rfl
    show wv (upd f m x) (m + 1) L q = f q
    rw [ih _ _ _ (by omega), upd, if_neg (by omega)]
theorem wv_in (L : List Int32) : ∀ (f : Nat → Int32) (m q : Nat), q < L.length → wv f m L (m + q) = gt0 L q := by
  induction L with
  | nil => intro f m q h; exact absurd h (Nat.not_lt_zero _)
  | cons x L ih =>
    intro f m q hq
    have hl : (x :: L).length = L.length + 1 := rfl
    show wv (upd f m x) (m + 1) L (m + q) = _
    rcases Nat.eq_zero_or_pos q with h0 | h0
    · subst h0
      rw [wv_out _ _ _ _ (by omega), upd, if_pos (by omega)]; rfl
    · obtain ⟨q, rfl⟩ : ∃ z, q = z + 1 := ⟨q - 1, by omega⟩
      rw [show m + (q + 1) = m + 1 + q by omega, ih _ _ _ (by omega)]; rfl
/-- the items of a TEXT from a place on -/
def Ps (f : Nat → Int32) (m : Nat) : List (Nat × Nat × Nat) → Nat → Prop
  | [], i => i ≤ m ∧ ∀ x, i ≤ x → x < m → f x = 32
  | (z, a, g) :: L, i => ∃ i', i ≤ i' ∧ (∀ x, i ≤ x → x < i' → f x = 32) ∧ i' + 5 ≤ m ∧ kd (f i') = some z ∧ Itm f i' a g ∧ Ps f m L (i' + 5)
theorem Ps_blank {f : Nat → Int32} {m : Nat} : ∀ (L : List (Nat × Nat × Nat)) {i i' : Nat}, i ≤ i' → (∀ x, i ≤ x → x < i' → f x = 32) → Ps f m L i' → Ps f m L i
  | [], i, i', h1, h2, h3 => ⟨Nat.le_trans h1 h3.1, fun x a b => by
      rcases Nat.lt_or_ge x i' with q | q
      · exact h2 x a q
      · exact h3.2 x q b⟩
  | (z, a, g) :: L, i, i', h1, h2, h3 => by
    obtain ⟨y, y1, y2, y3⟩ := h3
    refine ⟨y, by omega, fun x a b => ?_, y3⟩
    rcases Nat.lt_or_ge x i' with q | q
    · exact h2 x a q
    · exact y2 x q b
def lK (L : List (Nat × Nat × Nat)) : List Int32 := L.map (fun z => nI z.1)
def lT (L : List (Nat × Nat × Nat)) : List Int32 := L.map (fun z => nI z.2.1)
def lD (L : List (Nat × Nat × Nat)) : List Int32 := L.map (fun z => nI z.2.2)
def lE (L : List (Nat × Nat × Nat)) : List Int32 := L.map (fun z => -(nI z.2.2))
theorem lK_l (L : List (Nat × Nat × Nat)) : (lK L).length = L.length := List.length_map _
theorem lT_l (L : List (Nat × Nat × Nat)) : (lT L).length = L.length := List.length_map _
theorem lD_l (L : List (Nat × Nat × Nat)) : (lD L).length = L.length := List.length_map _
theorem lE_l (L : List (Nat × Nat × Nat)) : (lE L).length = L.length := List.length_map _
section
variable {r m p : Nat} {f : Nat → Int32} {mi : Nat → Int32} {ma : Nat → Nat → Int32} {sN : Nat → Int32} {sF : Nat → Nat → Int32} {j : Nat}
theorem clFlt (hs : sN j = nI m) (hl : m ≤ sL j) (hb : ∀ x, x < m → -128 ≤ (sF j x).toInt ∧ (sF j x).toInt ≤ 127) {i y : Nat} (hi : i < m) (hp : p < 7) (hy : Flt (sF j) m i y) {n : Nat} (hn : m - i < n + 1) : X5_faultPlace_6 sN sF j n (nI 1) (nI p) (nI (i + 1)) = some (nI y) := by
  have b1 : ok1 (bt (sF j) m (i + 1)) → i + 1 < m ∧ X5_canStand (sF j (i + 1)) (nI 1) = some 1 := fun h => by
    have q := (bt_ok1 h).1
    rw [bt_lt q] at h
    exact ⟨q, (canStand1 (hb _ q).1 (hb _ q).2).1 h⟩
  have b0 : ∀ w, 2 ≤ w → w ≤ 4 → ∀ x, ok0 (bt (sF j) m x) → x < m ∧ X5_canStand (sF j x) (nI w) = some 1 := fun w h2 h4 x h => by
    have q := (bt_ok0 h).1
    rw [bt_lt q] at h
    exact ⟨q, (canStand0 (hb _ q).1 (hb _ q).2 h2 h4).1 h⟩
  have n0 : ∀ w, 2 ≤ w → w ≤ 4 → ∀ x, ¬ ok0 (bt (sF j) m x) → x < m → X5_canStand (sF j x) (nI w) = some 0 := fun w h2 h4 x h q => by
    rw [bt_lt q] at h
    exact (canStand0 (hb _ q).1 (hb _ q).2 h2 h4).2 h
  rcases hy with ⟨e, k1⟩ | ⟨e, k1, k2⟩ | ⟨e, k1, k2, k3⟩ | ⟨e, k1, k2, k3, k4⟩
  · obtain ⟨n, rfl⟩ : ∃ z, n = z + 1 := ⟨n - 1, by omega⟩
    rw [clNo hs hl (by omega) (by omega) (by omega) (fun q => by rw [bt_lt q] at k1; exact (canStand1 (hb _ q).1 (hb _ q).2).2 k1) hp, e]
  · obtain ⟨n, rfl⟩ : ∃ z, n = z + 2 := ⟨n - 2, by have := (b1 k1).1; omega⟩
    rw [clOk hs hl (b1 k1).1 (by omega) (by omega) (b1 k1).2 hp, clNo hs hl (by have := (b1 k1).1; omega) (by omega) (by omega) (n0 2 (by omega) (by omega) _ k2) hp, e]
  · obtain ⟨n, rfl⟩ : ∃ z, n = z + 3 := ⟨n - 3, by have := (b0 2 (by omega) (by omega) _ k2).1; omega⟩
    rw [clOk hs hl (b1 k1).1 (by omega) (by omega) (b1 k1).2 hp, clOk hs hl (b0 2 (by omega) (by omega) _ k2).1 (by omega) (by omega) (b0 2 (by omega) (by omega) _ k2).2 hp, clNo hs hl (by have := (b0 2 (by omega) (by omega) _ k2).1; omega) (by omega) (by omega) (n0 3 (by omega) (by omega) _ k3) hp, e]
  · obtain ⟨n, rfl⟩ : ∃ z, n = z + 4 := ⟨n - 4, by have := (b0 3 (by omega) (by omega) _ k3).1; omega⟩
    rw [clOk hs hl (b1 k1).1 (by omega) (by omega) (b1 k1).2 hp, clOk hs hl (b0 2 (by omega) (by omega) _ k2).1 (by omega) (by omega) (b0 2 (by omega) (by omega) _ k2).2 hp, clOk hs hl (b0 3 (by omega) (by omega) _ k3).1 (by omega) (by omega) (b0 3 (by omega) (by omega) _ k3).2 hp, clNo hs hl (by have := (b0 3 (by omega) (by omega) _ k3).1; omega) (by omega) (by omega) (n0 4 (by omega) (by omega) _ k4) hp, e]
theorem okN0 {b : Nat} (hb : b ≤ 9) : ok0 (nI (48 + b)) := by rw [ok0, toI_nI (by omega)]; omega
theorem okN1 {b : Nat} (h1 : 1 ≤ b) (hb : b ≤ 8) : ok1 (nI (48 + b)) := by rw [ok1, toI_nI (by omega)]; omega
theorem rgN {b : Nat} (hb : b ≤ 9) : -128 ≤ (nI (48 + b)).toInt ∧ (nI (48 + b)).toInt ≤ 127 := by rw [toI_nI (by omega)]; omega
theorem clItm (hs : sN j = nI m) (hl : m ≤ sL j) {i a g : Nat} (hi : i + 5 ≤ m) (hp : p < 7) (hy : Itm (sF j) i a g) (n : Nat) : X5_faultPlace_6 sN sF j (n + 4) (nI 1) (nI p) (nI (i + 1)) = X5_faultPlace_6 sN sF j n 0 (nI (p + 1)) (nI (i + 5)) := by
  obtain ⟨a1, a8, ea, b, c, d, b9, c9, d9, eb, ec, ed, -⟩ := hy
  rw [clOk hs hl (by omega) (by omega) (by omega) (by rw [ea]; exact (canStand1 (rgN (by omega)).1 (rgN (by omega)).2).1 (okN1 a1 a8)) hp,
    clOk hs hl (by omega) (by omega) (by omega) (by rw [eb]; exact (canStand0 (rgN b9).1 (rgN b9).2 (by omega) (by omega)).1 (okN0 b9)) hp,
    clOk hs hl (by omega) (by omega) (by omega) (by rw [ec]; exact (canStand0 (rgN c9).1 (rgN c9).2 (by omega) (by omega)).1 (okN0 c9)) hp,
    clOk4 hs hl (by omega) (by rw [ed]; exact (canStand0 (rgN d9).1 (rgN d9).2 (by omega) (by omega)).1 (okN0 d9)) hp]
/-- the reference's reader and the class's FAULT -/
theorem readM (hr : r < 4) (hm : m ≤ 60) (hs : sN j = nI m) (hl : m ≤ sL j) (hb : ∀ x, x < m → -128 ≤ (sF j x).toInt ∧ (sF j x).toInt ≤ 127) : ∀ q i p n1 n2 (ma : Nat → Nat → Int32), m - i ≤ q → i ≤ m → p ≤ 7 → (i = m ∨ sF j i ≠ 32) → m - i < n1 → m - i < n2 → TX r m (sF j) ma →
    ∃ i' e p' ma', X9_readVillage_20 n2 (nI r) (M3 mi (nI i) (-1) (nI p)) ma = some (M3 mi i' e p', ma') ∧ (∀ x, x < 25 → ma' x = ma x) ∧
      ((e = -1 ∧ X5_faultPlace_6 sN sF j n1 0 (nI p) (nI i) = some (-9) ∧ ∃ L, Ps (sF j) m L i ∧ p + L.length ≤ 7 ∧ p' = nI (p + L.length) ∧ ma' 25 = wv (ma 25) p (lK L) ∧ ma' 26 = wv (ma 26) p (lT L) ∧ ma' 27 = wv (ma 27) p (lD L)) ∨
        ∃ y, y ≤ 60 ∧ e = nI y ∧ X5_faultPlace_6 sN sF j n1 0 (nI p) (nI i) = some (nI y)) := by
  intro q
  induction q with
  | zero =>
    intro i p n1 n2 ma h1 h2 h3 h4 h5 h6 T
    obtain ⟨n1, rfl⟩ : ∃ z, n1 = z + 1 := ⟨n1 - 1, by omega⟩
    obtain ⟨n2, rfl⟩ : ∃ z, n2 = z + 1 := ⟨n2 - 1, by omega⟩
    have : i = m := by omega
    subst this
    refine ⟨nI i, -1, nI p, ma, by rw [X9_readVillage_20, M3_6, if_neg (show ¬ (0 : Int32) ≤ -1 by decide), gd_nI hr (by omega), cl_nI (by omega), T.1, M3_5, if_pos (nI_le (Nat.le_refl _) (by omega))], fun _ _ => rfl, Or.inl ⟨rfl, ?_, [], ⟨Nat.le_refl _, fun x a b => by omega⟩, h3, rfl, rfl, rfl, rfl⟩⟩
    rw [X5_faultPlace_6, hs, if_pos (nI_le (Nat.le_refl _) (by omega)), if_pos rfl]
  | succ q ih =>
    intro i p n1 n2 ma h1 h2 h3 h4 h5 h6 T
    obtain ⟨n1, rfl⟩ : ∃ z, n1 = z + 1 := ⟨n1 - 1, by omega⟩
    obtain ⟨n2, rfl⟩ : ∃ z, n2 = z + 1 := ⟨n2 - 1, by omega⟩
    rcases Nat.lt_or_ge i m with hi | hi
    · have n32 : sF j i ≠ 32 := h4.elim (fun e => absurd e (by omega)) id
      obtain ⟨n2, rfl⟩ : ∃ z, n2 = z + 1 := ⟨n2 - 1, by omega⟩
      rw [X9_readVillage_20, M3_6, if_neg (show ¬ (0 : Int32) ≤ -1 by decide), gd_nI hr (by omega), cl_nI (by omega), T.1, M3_5, if_neg (nI_ge hi (by omega))]
      by_cases hk : kd (sF j i) = none ∨ p = 7
      · have e1 : X9_readOne (nI r) (M3 mi (nI i) (-1) (nI p)) ma = some (M3 mi (nI i) (nI i) (nI p), ma) := by
          rw [X9_readOne, byteM hr hm T (by omega), Option.bind_some, bt_lt hi, kindOfM, Option.bind_some, M3_7, M3_5, M3_u6, lt_]
          by_cases k0 : kd (sF j i) = none
          · rw [k0, kM, if_pos (by decide)]
          · have p7 : p = 7 := hk.resolve_left k0
            rw [if_pos (show nI p = 7 by rw [p7]; rfl)]
            split <;> rfl
        obtain ⟨i', g1, g2, g3, g4, g5⟩ := skipM (mi := mi) hr hm T (nI i) (nI p) (m - i) i 500 (Nat.le_refl _) (by omega) (by omega)
        rw [e1, bd2_some, X9_skip, g5, Option.bind_some, X9_readVillage_20, M3_6, if_pos (nI_pos' (by omega))]
        exact ⟨_, _, _, ma, rfl, fun _ _ => rfl, Or.inr ⟨i, by omega, rfl, clHead0 hs hl hi n32 hk n1⟩⟩
      · obtain ⟨z, hz⟩ : ∃ z, kd (sF j i) = some z := by
          cases e : kd (sF j i) with
          | none => exact absurd (Or.inl e) hk
          | some z => exact ⟨z, rfl⟩
        have hp : p < 7 := by
          have : p ≠ 7 := fun e => hk (Or.inr e)
          omega
        obtain ⟨i', e, t, g, e1, hi', ho⟩ := readOneM (mi := mi) (p := p) hr hm T hi hz hp
        have T2 : TX r m (sF j) (va_up (va_up (va_up ma 25 (upd (ma 25) p (nI z))) 26 (upd (ma 26) p t)) 27 (upd (ma 27) p g)) := T
        have lo : ∀ x, x < 25 → va_up (va_up (va_up ma 25 (upd (ma 25) p (nI z))) 26 (upd (ma 26) p t)) 27 (upd (ma 27) p g) x = ma x := fun x hx => by
          rw [up_ne _ _ (by omega), up_ne _ _ (by omega), up_ne _ _ (by omega)]
        rw [e1, bd2_some]
        rcases ho with ⟨ee, ei, a, b, et, eg, it⟩ | ⟨y, hy, ee, fl⟩
        · obtain ⟨i2, g1, g2, g3, g4, g5⟩ := skipM (mi := mi) hr hm T2 e (nI (p + 1)) (m - i') i' 500 (Nat.le_refl _) (by omega) (by omega)
          rw [X9_skip, g5, Option.bind_some]
          subst ee
          subst ei
          have hm5 : i + 5 ≤ m := hi'
          obtain ⟨n1, rfl⟩ : ∃ z, n1 = z + (i2 - (i + 5)) + 4 := ⟨n1 - (i2 - (i + 5)) - 4, by omega⟩
          have ec : X5_faultPlace_6 sN sF j (n1 + (i2 - (i + 5)) + 4 + 1) 0 (nI p) (nI i) = X5_faultPlace_6 sN sF j n1 0 (nI (p + 1)) (nI i2) := by
            rw [clHead hs hl hi n32 hz hp, clItm hs hl hm5 hp it, clBlank hs hl _ (i2 - (i + 5)) (i + 5) n1 (fun x a b => g3 x a (by omega)) (by omega), show i + 5 + (i2 - (i + 5)) = i2 by omega]
          obtain ⟨w1, w2, w3, w4, w5, w6, w7⟩ := ih i2 (p + 1) n1 (n2 + 1) _ (by omega) g2 (by omega) g4 (by omega) (by omega) T2
          refine ⟨w1, w2, w3, w4, w5, fun x hx => by rw [w6 x hx, lo x hx], ?_⟩
          rw [ec]
          rcases w7 with ⟨v1, v2, L, v3, v4, v5, v6, v7, v8⟩ | w7
          · have ll : ((z, a, b) :: L).length = L.length + 1 := rfl
            refine Or.inl ⟨v1, v2, (z, a, b) :: L, ⟨i, Nat.le_refl _, fun x a b => by omega, hm5, hz, it, Ps_blank L g1 g3 v3⟩, by omega, by rw [v5, ll]; congr 1; omega, ?_, ?_, ?_⟩
            · rw [v6]; rfl
            · rw [v7, et]; rfl
            · rw [v8, eg]; rfl
          · exact Or.inr w7
        · obtain ⟨i2, g1, g2, g3, g4, g5⟩ := skipM (mi := mi) hr hm T2 e (nI (p + 1)) (m - i') i' 500 (Nat.le_refl _) (by omega) (by omega)
          rw [X9_skip, g5, Option.bind_some, ee, X9_readVillage_20, M3_6, if_pos (nI_pos' (by omega))]
          exact ⟨_, _, _, _, rfl, lo, Or.inr ⟨y, by omega, rfl, by rw [clHead hs hl hi n32 hz hp, clFlt hs hl hb hi hp fl (by omega)]⟩⟩
    · have : i = m := by omega
      subst this
      refine ⟨nI i, -1, nI p, ma, by rw [X9_readVillage_20, M3_6, if_neg (show ¬ (0 : Int32) ≤ -1 by decide), gd_nI hr (by omega), cl_nI (by omega), T.1, M3_5, if_pos (nI_le (Nat.le_refl _) (by omega))], fun _ _ => rfl, Or.inl ⟨rfl, ?_, [], ⟨Nat.le_refl _, fun x a b => by omega⟩, h3, rfl, rfl, rfl, rfl⟩⟩
      rw [X5_faultPlace_6, hs, if_pos (nI_le (Nat.le_refl _) (by omega)), if_pos rfl]
theorem readV (hr : r < 4) (hm : m ≤ 60) (hs : sN j = nI m) (hl : m ≤ sL j) (hb : ∀ x, x < m → -128 ≤ (sF j x).toInt ∧ (sF j x).toInt ≤ 127) (T : TX r m (sF j) ma) :
    ∃ i' e p' ma', X9_readVillage (nI r) mi ma = some (M3 mi i' e p', ma') ∧ (∀ x, x < 25 → ma' x = ma x) ∧
      ((e = -1 ∧ X5_faultPlace sN sF j = some (-9) ∧ ∃ L, Ps (sF j) m L 0 ∧ L.length ≤ 7 ∧ p' = nI L.length ∧ ma' 25 = wv (ma 25) 0 (lK L) ∧ ma' 26 = wv (ma 26) 0 (lT L) ∧ ma' 27 = wv (ma 27) 0 (lD L)) ∨
        ∃ y, y ≤ 60 ∧ e = nI y ∧ X5_faultPlace sN sF j = some (nI y)) := by
  obtain ⟨i, g1, g2, g3, g4, g5⟩ := skipM (mi := mi) hr hm T (-1) (nI 0) m 0 500 (by omega) (by omega) (by omega)
  obtain ⟨w1, w2, w3, w4, w5, w6, w7⟩ := readM (mi := mi) hr hm hs hl hb m i 0 (500 - i) 500 ma (by omega) g2 (by omega) g4 (by omega) (by omega) T
  have ec : X5_faultPlace sN sF j = X5_faultPlace_6 sN sF j (500 - i) 0 (nI 0) (nI i) := by
    have := clBlank hs hl (nI 0) i 0 (500 - i) (fun x a b => g3 x a (by omega)) (by omega)
    rw [Nat.zero_add, show 500 - i + i = 500 by omega] at this
    exact this
  refine ⟨w1, w2, w3, w4, ?_, w6, ?_⟩
  · rw [X9_readVillage, lt_, lt_, lt_, X9_skip, show X9_skip_0 ma 500 (nI r) (va_up (va_up (va_up mi 5 0) 6 (-1)) 7 0) = _ from g5, Option.bind_some, w5]
  · rw [ec]
    rcases w7 with ⟨v1, v2, L, v3, v4, v5, v6, v7, v8⟩ | w7
    · rw [Nat.zero_add] at v4 v5
      exact Or.inl ⟨v1, v2, L, Ps_blank L (by omega) g3 v3, v4, v5, v6, v7, v8⟩
    · exact Or.inr w7
end
section
variable {P n : Nat} {k t l h a : Nat → Int32} {d : Int32} {vS vS' : Nat → Nat → Int32} {vF vF' : Nat → Nat → Nat → Int32} {D D' : Nat → Nat} {mi mi' : Nat → Int32} {ma ma' : Nat → Nat → Int32}
variable {gi : Nat → Int32} {gl : Nat → Int64} {ga : Nat → Nat → Int32} {sN : Nat → Int32} {sF : Nat → Nat → Int32} {ml : Nat → Int64}
theorem Rel_fr (R : Rel gi gl ga vS vF sN sF mi ml ma) (e1 : ∀ q, q < 5 → mi' q = mi q) (e2 : ∀ q, q < 24 → ma' q = ma q) : Rel gi gl ga vS vF sN sF mi' ml ma' := by
  obtain ⟨h1, h2, h3, h4⟩ := R
  refine ⟨?_, ?_, ?_, ?_⟩
  · unfold RR; rw [e2 10 (by omega), e2 11 (by omega)]; exact h1
  · unfold RT; rw [e2 12 (by omega), e2 13 (by omega)]; exact h2
  · unfold RS; rw [e1 4 (by omega), e1 3 (by omega), e2 9 (by omega)]; exact h3
  · unfold RV RM RK
    rw [e1 0 (by omega), e1 1 (by omega), e1 2 (by omega), e2 0 (by omega), e2 1 (by omega), e2 2 (by omega), e2 3 (by omega), e2 4 (by omega), e2 5 (by omega), e2 6 (by omega), e2 7 (by omega), e2 8 (by omega), e2 14 (by omega), e2 15 (by omega), e2 16 (by omega), e2 17 (by omega), e2 18 (by omega), e2 19 (by omega), e2 20 (by omega), e2 21 (by omega), e2 22 (by omega), e2 23 (by omega)]
    exact h4
theorem st_fault (R : Rel gi gl ga vS vF sN sF mi ml ma) (x : Int32) : ∃ r gi' ga' mi' ma', X8_fault sN sF x gi ga = some (r, gi', ga') ∧ X9_fault x mi ma = some (r, mi', ma') ∧ Rel gi' gl ga' vS vF sN sF mi' ml ma' := by
  rcases text_cases x with ⟨r, hr, rfl, h1, h2⟩ | ⟨h1, h2⟩
  · obtain ⟨e1, hs, ef⟩ := R.2.1 r hr
    rcases sz_cases hs (by omega) with ⟨em, hneg⟩ | ⟨m, hm, em, hpos⟩
    · refine ⟨-3, _, _, _, _, ?_, ?_, Rel_found (f := 1) R (by omega)⟩
      · rw [X8_fault, h1, Option.bind_some, if_neg one_ne, gd_nI hr (by omega), cl_nI (by omega), isMissingC, if_neg hneg, Option.bind_some, if_neg one_ne, show (1 : Int32) = nI 1 from rfl, foundC (by omega) (by omega)]; rfl
      · rw [X9_fault, h2, Option.bind_some, if_neg one_ne, gd_nI hr (by omega), cl_nI (by omega), ← e1, if_neg hneg, show (1 : Int32) = nI 1 from rfl, findsM (by omega)]; rfl
    · have T : TX r m (sF (6 + r)) ma := ⟨by rw [← e1, em], fun q hq => (ef q hq).1.symm⟩
      obtain ⟨i', e, p', ma', g1, g2, g3⟩ := readV (mi := mi) hr hm em (by rw [sL60]; exact hm) (fun q hq => (ef q (by omega)).2) T
      have Rl : Rel gi gl ga vS vF sN sF (M3 mi i' e p') ml ma' := Rel_fr R (fun q hq => M3_lo _ _ _ _ hq) (fun q hq => g2 q (by omega))
      rcases g3 with ⟨ee, ec, -⟩ | ⟨y, hy, ee, ec⟩
      · refine ⟨-9, gi, ga, _, _, ?_, ?_, Rl⟩
        · rw [X8_fault, h1, Option.bind_some, if_neg one_ne, gd_nI hr (by omega), cl_nI (by omega), isMissingC, if_pos hpos, Option.bind_some, if_pos rfl, gd_nI hr (by omega), ec, Option.bind_some]
        · rw [X9_fault, h2, Option.bind_some, if_neg one_ne, gd_nI hr (by omega), cl_nI (by omega), ← e1, if_pos hpos, g1, bd2_some, M3_6, ee, if_neg (by decide)]
      · refine ⟨nI y, gi, ga, _, _, ?_, ?_, Rl⟩
        · rw [X8_fault, h1, Option.bind_some, if_neg one_ne, gd_nI hr (by omega), cl_nI (by omega), isMissingC, if_pos hpos, Option.bind_some, if_pos rfl, gd_nI hr (by omega), ec, Option.bind_some]
        · rw [X9_fault, h2, Option.bind_some, if_neg one_ne, gd_nI hr (by omega), cl_nI (by omega), ← e1, if_pos hpos, g1, bd2_some, M3_6, ee, if_pos (nI_pos' (by omega))]
  · refine ⟨-1, gi, ga, mi, ma, ?_, ?_, R⟩
    · rw [X8_fault, h1, Option.bind_some, if_pos rfl]
    · rw [X9_fault, h2, Option.bind_some, if_pos rfl]
end
