theorem u2_3 {α : Type} (F : Nat → Nat → α) (A B C A' B' C' : α) : u2 (u2 (u2 (u2 (u2 (u2 F 0 0 A) 0 1 B) 0 2 C) 0 0 A') 0 1 B') 0 2 C' = u2 (u2 (u2 F 0 0 A') 0 1 B') 0 2 C' := by
  funext i j; unfold u2
  by_cases hi : i = 0
  · by_cases h2 : j = 2
    · simp [hi, h2]
    · by_cases h1 : j = 1
      · simp [hi, h1]
      · by_cases h0 : j = 0
        · simp [hi, h0]
        · simp [hi, h0, h1, h2]
  · simp [hi]
theorem nI_5 (x : Nat) : nI x + 5 = nI (x + 5) := nI_add x 5
section
variable {m p : Nat} {sN : Nat → Int32} {sF : Nat → Nat → Int32} {j : Nat} {vS : Nat → Nat → Int32} {vF : Nat → Nat → Nat → Int32}
theorem addPersonC (e : vS 0 0 = nI p) (hp : p < 7) (a1 a2 a3 : Int32) : X7_addPerson a1 a2 a3 vS vF = some (u2 vS 0 0 (nI (p + 1)), u2 (u2 (u2 vF 0 0 (upd (vF 0 0) p a1)) 0 1 (upd (vF 0 1) p a2)) 0 2 (upd (vF 0 2) p (-a3))) := by
  rw [X7_addPerson, e, if_neg (nI_pos (by omega)), if_pos (show nI p < 7 from (nI_lt hp (by omega) : _ < nI 7)), gd_nI hp (by omega), lt_, gd_nI hp (by omega), lt_, gd_nI hp (by omega), lt_, lt_, cl_nI (by omega), nI_1, u2_n2 _ _ _ _ (show 1 ≠ 0 by omega), u2_n2 _ _ _ _ (show 2 ≠ 1 by omega), u2_n2 _ _ _ _ (show 2 ≠ 0 by omega)]
theorem seDone (hs : sN j = nI m) (hm : m ≤ 60) {x : Nat} (hx : x ≤ 100) (h : m < x + 5) (n : Nat) : X5_settle_7 sN sF j (n + 1) (nI x) vS vF = bd2 (X7_startAnew vS vF) (fun a b => some (a, b)) := by
  rw [X5_settle_7, hs, nI_5, if_pos (nI_lt h (by omega))]
theorem seNon (hs : sN j = nI m) (hl : m ≤ sL j) {x : Nat} (h : x + 5 ≤ m) (hk : kd (sF j x) = none) (n : Nat) : X5_settle_7 sN sF j (n + 1) (nI x) vS vF = X5_settle_7 sN sF j n (nI (x + 1)) vS vF := by
  have h6 := sL_lt j
  rw [X5_settle_7, hs, nI_5, if_neg (nI_nlt h (by omega)), gd_nI (by omega) (by omega), cl_nI (by omega), ofLetterC, Option.bind_some, hk, kC, if_pos rfl, nI_1]
theorem seSkip (hs : sN j = nI m) (hl : m ≤ sL j) : ∀ e x n, x + e ≤ m → (∀ y, x ≤ y → y < x + e → kd (sF j y) = none) → X5_settle_7 sN sF j (n + 1 + e) (nI x) vS vF = X5_settle_7 sN sF j (n + 1) (nI (x + e)) vS vF := by
  have h6 := sL_lt j
  intro e
  induction e with
  | zero => intro x n _ _; rfl
  | succ e ih =>
    intro x n hx hk
    rw [show n + 1 + (e + 1) = (n + 1 + e) + 1 by omega]
    rcases Nat.lt_or_ge m (x + 5) with q | q
    · rw [seDone hs (by omega) (by omega) q, seDone hs (by omega) (by omega) (by omega)]
    · rw [seNon hs hl q (hk x (by omega) (by omega)), ih (x + 1) n (by omega) (fun y a b => hk y (by omega) (by omega)), show x + 1 + e = x + (e + 1) by omega]
theorem s41 (hl : m ≤ sL j) {x y s b : Nat} (hx : x + 5 ≤ m) (hy : y < x + 5) (e : sF j y = nI (48 + b)) (k7 : Int32 → (Nat → Nat → Int32) → (Nat → Nat → Nat → Int32) → Option ((Nat → Nat → Int32) × (Nat → Nat → Nat → Int32))) (v3 : Int32) (n : Nat) : X5_settle_41 sN sF j k7 (n + 1) (nI x) v3 (nI s) (nI y) vS vF = X5_settle_41 sN sF j k7 n (nI x) v3 (nI (10 * s + b)) (nI (y + 1)) vS vF := by
  have h6 := sL_lt j
  rw [X5_settle_41, nI_5, if_neg (nI_ge hy (by omega)), gd_nI (by omega) (by omega), lt_, cl_nI (by omega), e, show (10 : Int32) * nI s + nI (48 + b) = nI (10 * s + (48 + b)) from mixN 10 s (48 + b), show (48 : Int32) = nI 48 from rfl, pk_sub (by omega), nI_1, show 10 * s + (48 + b) - 48 = 10 * s + b by omega]
theorem seLet (hs : sN j = nI m) (hl : m ≤ sL j) {x z a g : Nat} (h : x + 5 ≤ m) (hk : kd (sF j x) = some z) (it : Itm (sF j) x a g) (e : vS 0 0 = nI p) (hp : p < 7) (n : Nat) : X5_settle_7 sN sF j (n + 1) (nI x) vS vF = X5_settle_7 sN sF j n (nI (x + 1)) (u2 vS 0 0 (nI (p + 1))) (u2 (u2 (u2 vF 0 0 (upd (vF 0 0) p (nI z))) 0 1 (upd (vF 0 1) p (nI a))) 0 2 (upd (vF 0 2) p (-(nI g)))) := by
  have h6 := sL_lt j
  have hz6 := kd6 hk
  obtain ⟨a1, a8, ea, b, c, d, b9, c9, d9, eb, ec, ed, eg⟩ := it
  rw [X5_settle_7, hs, nI_5, if_neg (nI_nlt h (by omega)), gd_nI (by omega) (by omega), cl_nI (by omega), ofLetterC, Option.bind_some, hk, kC, if_neg (show ¬ nI z = -9 from (nI_ne9 (by omega)).1)]
  rw [show X5_settle_41 sN sF j (X5_settle_7 sN sF j n) 500 (nI x) (nI z) 0 (nI x + 2) vS vF = X5_settle_41 sN sF j (X5_settle_7 sN sF j n) (496 + 1 + 1 + 1 + 1) (nI x) (nI z) (nI 0) (nI (x + 2)) vS vF by rw [← nI_two]; rfl]
  rw [s41 hl h (by omega) eb, s41 hl h (by omega) ec, s41 hl h (by omega) ed, X5_settle_41, nI_5, if_pos (nI_le (show x + 5 ≤ x + 2 + 1 + 1 + 1 by omega) (by omega)), nI_1, gd_nI (by omega) (by omega), cl_nI (by omega), ea, sub48N, ← eg, addPersonC e hp, bd2_some]
theorem settleC (hs : sN j = nI m) (hl : m ≤ sL j) : ∀ (L : List (Nat × Nat × Nat)) (i p : Nat) (vS : Nat → Nat → Int32) (vF : Nat → Nat → Nat → Int32) (n : Nat), Ps (sF j) m L i → vS 0 0 = nI p → p + L.length ≤ 7 → m + 1 ≤ n + i →
    X5_settle_7 sN sF j n (nI i) vS vF = bd2 (X7_startAnew (u2 vS 0 0 (nI (p + L.length))) (u2 (u2 (u2 vF 0 0 (wv (vF 0 0) p (lK L))) 0 1 (wv (vF 0 1) p (lT L))) 0 2 (wv (vF 0 2) p (lE L)))) (fun a b => some (a, b)) := by
  have h6 := sL_lt j
  intro L
  induction L with
  | nil =>
    intro i p vS vF n ps e0 hp hn
    have hi := ps.1
    obtain ⟨n, rfl⟩ : ∃ z, n = z + 1 + (m - i) := ⟨n - 1 - (m - i), by have := ps.1; omega⟩
    rw [seSkip hs hl (m - i) i n (by have := ps.1; omega) (fun y a b => kd_no (by rw [ps.2 y a (by omega)]; decide)), seDone hs (by omega) (by omega) (by omega)]
    have e1 : u2 vS 0 0 (nI (p + ([] : List (Nat × Nat × Nat)).length)) = vS := by
      show u2 vS 0 0 (nI p) = vS
      rw [← e0, u2_self]
    have e2 : u2 (u2 (u2 vF 0 0 (vF 0 0)) 0 1 (vF 0 1)) 0 2 (vF 0 2) = vF := by
      rw [u2_self, u2_self, u2_self]
    rw [e1]
    show _ = bd2 (X7_startAnew vS (u2 (u2 (u2 vF 0 0 (vF 0 0)) 0 1 (vF 0 1)) 0 2 (vF 0 2))) _
    rw [e2]
  | cons w L ih =>
    obtain ⟨z, a, g⟩ := w
    intro i p vS vF n ps e0 hp hn
    obtain ⟨i', q1, q2, q3, q4, q5, q6⟩ := ps
    have ll : ((z, a, g) :: L).length = L.length + 1 := rfl
    have it := q5
    obtain ⟨a1, a8, ea, b, c, d, b9, c9, d9, eb, ec, ed, eg⟩ := q5
    have hdig : ∀ y, i' + 1 ≤ y → y < i' + 1 + 4 → kd (sF j y) = none := by
      intro y h1 h2
      have : y = i' + 1 ∨ y = i' + 2 ∨ y = i' + 3 ∨ y = i' + 4 := by omega
      rcases this with rfl | rfl | rfl | rfl
      · rw [ea]; exact kd_no (by rw [toI_nI (by omega)]; omega)
      · rw [eb]; exact kd_no (by rw [toI_nI (by omega)]; omega)
      · rw [ec]; exact kd_no (by rw [toI_nI (by omega)]; omega)
      · rw [ed]; exact kd_no (by rw [toI_nI (by omega)]; omega)
    obtain ⟨n, rfl⟩ : ∃ z, n = z + 1 + 4 + 1 + (i' - i) := ⟨n - (i' - i) - 6, by omega⟩
    rw [seSkip hs hl (i' - i) i (n + 1 + 4) (by omega) (fun y a b => kd_no (by rw [q2 y a (by omega)]; decide)), show i + (i' - i) = i' by omega, seLet hs hl q3 q4 it e0 (by omega), seSkip hs hl 4 (i' + 1) n (by omega) hdig, show i' + 1 + 4 = i' + 5 by omega, ih (i' + 5) (p + 1) _ _ (n + 1) q6 (u2_at _ _ _ _) (by omega) (by omega), u2_u2, u2_3, u2_at, u2_n2 _ _ _ _ (show 0 ≠ 2 by omega), u2_n2 _ _ _ _ (show 0 ≠ 1 by omega), u2_at, u2_n2 _ _ _ _ (show 1 ≠ 2 by omega), u2_at, ll, show p + 1 + L.length = p + (L.length + 1) by omega]
    rfl
end
theorem startC (vS : Nat → Nat → Int32) (vF : Nat → Nat → Nat → Int32) : X7_startAnew vS vF = some (u2 (u2 vS 0 1 0) 0 2 0, u2 (u2 (u2 vF 0 3 (va_cpy (vF 0 2) (vF 0 3) 0 0 7)) 0 4 (fb_put (vF 0 4) (fun _ => -9) 0 7)) 0 5 (fb_put (vF 0 5) (fun _ => -9) 0 7)) := by
  rw [X7_startAnew, lt_, lt_, gd_t (by decide), lt_, freeAllC, Option.bind_some, u2_n2 vF _ _ _ (show 4 ≠ 3 by omega), u2_n2 vF _ _ _ (show 5 ≠ 3 by omega)]; rfl
def vS2 (vS : Nat → Nat → Int32) (N : Nat) : Nat → Nat → Int32 := u2 (u2 (u2 (u2 (u2 (u2 vS 0 0 (nI N)) 0 1 0) 0 2 0) 1 0 0) 2 0 0) 3 0 0
def vF1 (vF : Nat → Nat → Nat → Int32) (L : List (Nat × Nat × Nat)) : Nat → Nat → Nat → Int32 := u2 (u2 (u2 vF 0 0 (wv (vF 0 0) 0 (lK L))) 0 1 (wv (vF 0 1) 0 (lT L))) 0 2 (wv (vF 0 2) 0 (lE L))
def vF2 (F : Nat → Nat → Nat → Int32) : Nat → Nat → Nat → Int32 := u2 (u2 (u2 F 0 3 (va_cpy (F 0 2) (F 0 3) 0 0 7)) 0 4 (fb_put (F 0 4) (fun _ => -9) 0 7)) 0 5 (fb_put (F 0 5) (fun _ => -9) 0 7)
theorem Ps_get {f : Nat → Int32} {m : Nat} : ∀ (L : List (Nat × Nat × Nat)) {i : Nat}, Ps f m L i → ∀ x, x < L.length → (∃ z, z < 6 ∧ gt0 (lK L) x = nI z) ∧ (∃ z, 1 ≤ z ∧ z ≤ 8 ∧ gt0 (lT L) x = nI z) ∧ -(gt0 (lD L) x) = gt0 (lE L) x
  | [], _, _, x, hx => absurd hx (Nat.not_lt_zero _)
  | (z, a, g) :: L, i, ps, x, hx => by
    obtain ⟨i', q1, q2, q3, q4, q5, q6⟩ := ps
    have ll : ((z, a, g) :: L).length = L.length + 1 := rfl
    rcases Nat.eq_zero_or_pos x with h0 | h0
    · subst h0
      exact ⟨⟨z, kd6 q4, rfl⟩, ⟨a, q5.1, q5.2.1, rfl⟩, rfl⟩
    · obtain ⟨x, rfl⟩ : ∃ y, x = y + 1 := ⟨x - 1, by omega⟩
      exact Ps_get L q6 x (by omega)
/-- a person of the reference's village, by what was read -/
def ST (ma : Nat → Nat → Int32) (i : Nat) : Nat → Nat → Int32 := va_up (va_up (va_up (va_up (va_up ma 0 (upd (ma 0) i (ma 25 i))) 1 (upd (ma 1) i (ma 26 i))) 4 (upd (ma 4) i (-(ma 27 i)))) 2 (upd (ma 2) i (-9))) 3 (upd (ma 3) i (-9))
theorem ST_hi (ma : Nat → Nat → Int32) (i : Nat) {r : Nat} (h : 5 ≤ r) : ST ma i r = ma r := by
  unfold ST; rw [up_ne _ _ (by omega), up_ne _ _ (by omega), up_ne _ _ (by omega), up_ne _ _ (by omega), up_ne _ _ (by omega)]
theorem upd_at (f : Nat → Int32) (i : Nat) (v : Int32) : upd f i v i = v := by simp [upd]
theorem upd_ne (f : Nat → Int32) {i q : Nat} (v : Int32) (h : q ≠ i) : upd f i v q = f q := by simp [upd, h]
section
variable {mi : Nat → Int32} {N : Nat}
theorem vil59 (hN : N ≤ 7) (e : mi 0 = nI N) : ∀ q i n (ma : Nat → Nat → Int32), i + q = N → q < n → ∃ ma', X9_village_59 n (nI i) mi ma = X9_village_128 500 0 mi ma' ∧ (∀ r, 5 ≤ r → ma' r = ma r) ∧ (∀ x, x < i → ma' 0 x = ma 0 x ∧ ma' 1 x = ma 1 x ∧ ma' 4 x = ma 4 x ∧ ma' 2 x = ma 2 x ∧ ma' 3 x = ma 3 x) ∧ ∀ x, i ≤ x → x < N → ma' 0 x = ma 25 x ∧ ma' 1 x = ma 26 x ∧ ma' 4 x = -(ma 27 x) ∧ ma' 2 x = -9 ∧ ma' 3 x = -9 := by
  intro q
  induction q with
  | zero =>
    intro i n ma h1 h2
    obtain ⟨n, rfl⟩ : ∃ z, n = z + 1 := ⟨n - 1, by omega⟩
    have : i = N := by omega
    subst this
    exact ⟨ma, by rw [X9_village_59, e, if_pos (nI_le (Nat.le_refl _) (by omega))], fun _ _ => rfl, fun _ _ => ⟨rfl, rfl, rfl, rfl, rfl⟩, fun x a b => by omega⟩
  | succ q ih =>
    intro i n ma h1 h2
    obtain ⟨n, rfl⟩ : ∃ z, n = z + 1 := ⟨n - 1, by omega⟩
    have hi7 : i < 7 := by omega
    have st : X9_village_59 (n + 1) (nI i) mi ma = X9_village_59 n (nI (i + 1)) mi (ST ma i) := by
      rw [X9_village_59, e, if_neg (nI_ge (by omega) (by omega)), gd_nI hi7 (by omega), gd_nI hi7 (by omega), lt_, gd_nI hi7 (by omega), gd_nI hi7 (by omega), lt_, gd_nI hi7 (by omega), gd_nI hi7 (by omega), lt_, gd_nI hi7 (by omega), lt_, gd_nI hi7 (by omega), lt_, cl_nI (by omega), nI_1]
      rfl
    obtain ⟨ma', w1, w2, w3, w4⟩ := ih (i + 1) n (ST ma i) (by omega) (by omega)
    refine ⟨ma', by rw [st, w1], fun r hr => by rw [w2 r hr, ST_hi ma i hr], fun x hx => ?_, fun x h3 h4 => ?_⟩
    · obtain ⟨a, b, c, d, f⟩ := w3 x (by omega)
      rw [a, b, c, d, f]
      exact ⟨upd_ne _ _ (by omega), upd_ne _ _ (by omega), upd_ne _ _ (by omega), upd_ne _ _ (by omega), upd_ne _ _ (by omega)⟩
    · by_cases ex : x = i
      · subst ex
        obtain ⟨a, b, c, d, f⟩ := w3 x (by omega)
        rw [a, b, c, d, f]
        exact ⟨upd_at _ _ _, upd_at _ _ _, upd_at _ _ _, upd_at _ _ _, upd_at _ _ _⟩
      · have := w4 x (by omega) h4
        rw [ST_hi ma i (show 5 ≤ 25 by omega), ST_hi ma i (show 5 ≤ 26 by omega), ST_hi ma i (show 5 ≤ 27 by omega)] at this
        exact this
theorem vil128 (ma : Nat → Nat → Int32) : X9_village_128 500 0 mi ma = some (mi 0, mi, va_up ma 14 (upd (upd (upd (ma 14) 0 (-1)) 1 (-1)) 2 (-1))) := by
  have st : ∀ i n (ma : Nat → Nat → Int32), i < 3 → X9_village_128 (n + 1) (nI i) mi ma = X9_village_128 n (nI (i + 1)) mi (va_up ma 14 (upd (ma 14) i (-1))) := by
    intro i n ma hi
    rw [X9_village_128, if_neg (show ¬ (3 : Int32) ≤ nI i from (nI_ge hi (by omega) : ¬ nI 3 ≤ nI i)), gd_nI hi (by omega), lt_, cl_nI (by omega), nI_1]
  show X9_village_128 (496 + 1 + 1 + 1 + 1) (nI 0) mi ma = _
  rw [st 0 _ _ (by omega), st _ _ _ (by omega), st _ _ _ (by omega), X9_village_128, if_pos (by decide), up_up, up_up, up_at, up_at]
end
section
variable {P n : Nat} {k t l h a : Nat → Int32} {d : Int32} {vS vS' : Nat → Nat → Int32} {vF vF' : Nat → Nat → Nat → Int32} {D D' : Nat → Nat} {mi mi' : Nat → Int32} {ma ma' : Nat → Nat → Int32}
variable {gi : Nat → Int32} {gl : Nat → Int64} {ga : Nat → Nat → Int32} {sN : Nat → Int32} {sF : Nat → Nat → Int32} {ml : Nat → Int64}
theorem vil59C (vS : Nat → Nat → Int32) : X8_village_59 sN sF 500 0 gi ga vS vF = some (vS 0 0, gi, ga, u2 (u2 (u2 vS 1 0 0) 2 0 0) 3 0 0, vF) := by
  have st : ∀ i n (vS : Nat → Nat → Int32), i < 3 → X8_village_59 sN sF (n + 1) (nI i) gi ga vS vF = X8_village_59 sN sF n (nI (i + 1)) gi ga (u2 vS (1 + i) 0 0) vF := by
    intro i n vS hi
    rw [X8_village_59, if_neg (show ¬ (3 : Int32) ≤ nI i from (nI_ge hi (by omega) : ¬ nI 3 ≤ nI i)), gd_nI hi (by omega), lt_, cl_nI (by omega), nI_1]
  show X8_village_59 sN sF (496 + 1 + 1 + 1 + 1) (nI 0) gi ga vS vF = _
  rw [st 0 _ _ (by omega), st _ _ _ (by omega), st _ _ _ (by omega), X8_village_59, if_pos (by decide), u2_n1 _ _ _ (show 0 ≠ 1 + (0 + 1 + 1) by omega), u2_n1 _ _ _ (show 0 ≠ 1 + (0 + 1) by omega), u2_n1 _ _ _ (show 0 ≠ 1 + 0 by omega)]
theorem st_village (R : Rel gi gl ga vS vF sN sF mi ml ma) (x : Int32) : ∃ r gi' ga' vS' vF' mi' ma', X8_village sN sF x gi ga vS vF = some (r, gi', ga', vS', vF') ∧ X9_village x mi ma = some (r, mi', ma') ∧ Rel gi' gl ga' vS' vF' sN sF mi' ml ma' := by
  rcases text_cases x with ⟨r, hr, rfl, h1, h2⟩ | ⟨h1, h2⟩
  · obtain ⟨e1, hs, ef⟩ := R.2.1 r hr
    rcases sz_cases hs (by omega) with ⟨em, hneg⟩ | ⟨m, hm, em, hpos⟩
    · refine ⟨-3, _, _, vS, vF, _, _, ?_, ?_, Rel_found (f := 1) R (by omega)⟩
      · rw [X8_village, h1, Option.bind_some, if_neg one_ne, gd_nI hr (by omega), cl_nI (by omega), isMissingC, if_neg hneg, Option.bind_some, if_neg one_ne, show (1 : Int32) = nI 1 from rfl, foundC (by omega) (by omega)]; rfl
      · rw [X9_village, h2, Option.bind_some, if_neg one_ne, gd_nI hr (by omega), cl_nI (by omega), ← e1, if_neg hneg, show (1 : Int32) = nI 1 from rfl, findsM (by omega)]; rfl
    · have T : TX r m (sF (6 + r)) ma := ⟨by rw [← e1, em], fun q hq => (ef q hq).1.symm⟩
      have hl : m ≤ sL (6 + r) := by rw [sL60]; exact hm
      obtain ⟨i', e, p', ma', g1, g2, g3⟩ := readV (mi := mi) hr hm em hl (fun q hq => (ef q (by omega)).2) T
      rcases g3 with ⟨ee, ec, L, ps, hL, ep, m25, m26, m27⟩ | ⟨y, hy, ee, ec⟩
      · subst ee
        subst ep
        have hset := settleC em hl L 0 0 (u2 vS 0 0 0) vF 500 ps (u2_at _ _ _ _) (by omega) (by omega)
        rw [startC, bd2_some, Nat.zero_add, u2_u2] at hset
        obtain ⟨mb, w1, w2, -, w4⟩ := vil59 (mi := va_up (va_up (va_up (M3 mi i' (-1) (nI L.length)) 0 (nI L.length)) 1 0) 2 0) hL rfl L.length 0 500 ma' (by omega) (by omega)
        refine ⟨nI L.length, gi, ga, vS2 vS L.length, vF2 (vF1 vF L), va_up (va_up (va_up (M3 mi i' (-1) (nI L.length)) 0 (nI L.length)) 1 0) 2 0, va_up mb 14 (upd (upd (upd (mb 14) 0 (-1)) 1 (-1)) 2 (-1)), ?_, ?_, ?_⟩
        · rw [X8_village, h1, Option.bind_some, if_neg one_ne, gd_nI hr (by omega), cl_nI (by omega), isMissingC, if_pos hpos, Option.bind_some, if_pos rfl, gd_nI hr (by omega), ec, Option.bind_some, if_pos rfl, gd_nI hr (by omega), X5_settle, lt_, show X5_settle_7 sN sF (6 + r) 500 0 (u2 vS 0 0 0) vF = _ from hset, bd2_some, vil59C, u2_n2 _ _ _ _ (show 0 ≠ 2 by omega), u2_n2 _ _ _ _ (show 0 ≠ 1 by omega), u2_at]
          rfl
        · rw [X9_village, h2, Option.bind_some, if_neg one_ne, gd_nI hr (by omega), cl_nI (by omega), ← e1, if_pos hpos, g1, bd2_some, M3_6, if_pos (show (-1 : Int32) < 0 by decide), M3_7, lt_, lt_, lt_, show X9_village_59 500 0 (va_up (va_up (va_up (M3 mi i' (-1) (nI L.length)) 0 (nI L.length)) 1 0) 2 0) ma' = _ from w1, vil128]
          rfl
        · have lo : ∀ q, 5 ≤ q → q < 24 → q ≠ 14 → va_up mb 14 (upd (upd (upd (mb 14) 0 (-1)) 1 (-1)) 2 (-1)) q = ma q := fun q a b c => by
            rw [up_ne _ _ c, w2 q a, g2 q (by omega)]
          have pg := Ps_get L ps
          have wx : ∀ x, x < L.length → mb 0 x = gt0 (lK L) x ∧ mb 1 x = gt0 (lT L) x ∧ mb 4 x = gt0 (lE L) x ∧ mb 2 x = -9 ∧ mb 3 x = -9 := by
            intro x hx
            obtain ⟨a, b, c, d, f⟩ := w4 x (by omega) hx
            have q1 := wv_in (lK L) (ma 25) 0 x (by rw [lK_l]; exact hx)
            have q2 := wv_in (lT L) (ma 26) 0 x (by rw [lT_l]; exact hx)
            have q3 := wv_in (lD L) (ma 27) 0 x (by rw [lD_l]; exact hx)
            rw [Nat.zero_add] at q1 q2 q3
            rw [a, b, c, m25, m26, m27, q1, q2, q3, (pg x hx).2.2]
            exact ⟨rfl, rfl, rfl, d, f⟩
          refine ⟨?_, ?_, ?_, ?_⟩
          · unfold RR; rw [lo 10 (by omega) (by omega) (by omega), lo 11 (by omega) (by omega) (by omega)]; exact R.1
          · unfold RT; rw [lo 12 (by omega) (by omega) (by omega), lo 13 (by omega) (by omega) (by omega)]; exact R.2.1
          · unfold RS; rw [lo 9 (by omega) (by omega) (by omega)]; exact R.2.2.1
          · refine ⟨L.length, gt0 (lK L), rfl, fun x hx => (wx x hx).1, ⟨0, gt0 (lT L), fun _ _ => -9, fun _ _ => -9, fun _ => gt0 (lE L), fun _ => 0, fun _ _ => 0, ⟨by omega, fun d hd => ⟨hL, fun x hx => (pg x hx).1, fun x hx => (pg x hx).2.1, fun x hx => Or.inl ⟨rfl, rfl⟩, fun x hx => Nat.zero_le _, fun x hx => Or.inl ⟨rfl, rfl⟩⟩⟩, ⟨?_, ?_, ?_, ?_, ⟨rfl, ?_⟩, fun d hd => absurd hd (Nat.not_lt_zero _)⟩, ⟨rfl, rfl, ?_, fun d hd => absurd hd (Nat.not_lt_zero _)⟩⟩, fun q hq => Or.inl ⟨?_, ?_⟩⟩
            · unfold vS2; rw [u2_n1 _ _ _ (show 0 ≠ 3 by omega), u2_n1 _ _ _ (show 0 ≠ 2 by omega), u2_n1 _ _ _ (show 0 ≠ 1 by omega), u2_n2 _ _ _ _ (show 0 ≠ 2 by omega), u2_n2 _ _ _ _ (show 0 ≠ 1 by omega), u2_at]
            · unfold vS2; rw [u2_n1 _ _ _ (show 0 ≠ 3 by omega), u2_n1 _ _ _ (show 0 ≠ 2 by omega), u2_n1 _ _ _ (show 0 ≠ 1 by omega), u2_n2 _ _ _ _ (show 1 ≠ 2 by omega), u2_at]
            · unfold vS2; rw [u2_n1 _ _ _ (show 0 ≠ 3 by omega), u2_n1 _ _ _ (show 0 ≠ 2 by omega), u2_n1 _ _ _ (show 0 ≠ 1 by omega), u2_at]; rfl
            · intro x hx
              have q1 := wv_in (lK L) (vF 0 0) 0 x (by rw [lK_l]; exact hx)
              have q2 := wv_in (lT L) (vF 0 1) 0 x (by rw [lT_l]; exact hx)
              have q3 := wv_in (lE L) (vF 0 2) 0 x (by rw [lE_l]; exact hx)
              rw [Nat.zero_add] at q1 q2 q3
              refine ⟨?_, ?_, ?_, ?_, ?_⟩
              · unfold vF2 vF1; rw [u2_n2 _ _ _ _ (show 0 ≠ 5 by omega), u2_n2 _ _ _ _ (show 0 ≠ 4 by omega), u2_n2 _ _ _ _ (show 0 ≠ 3 by omega), u2_n2 _ _ _ _ (show 0 ≠ 2 by omega), u2_n2 _ _ _ _ (show 0 ≠ 1 by omega), u2_at, q1]
              · unfold vF2 vF1; rw [u2_n2 _ _ _ _ (show 1 ≠ 5 by omega), u2_n2 _ _ _ _ (show 1 ≠ 4 by omega), u2_n2 _ _ _ _ (show 1 ≠ 3 by omega), u2_n2 _ _ _ _ (show 1 ≠ 2 by omega), u2_at, q2]
              · unfold vF2 vF1; rw [u2_n2 _ _ _ _ (show 3 ≠ 5 by omega), u2_n2 _ _ _ _ (show 3 ≠ 4 by omega), u2_at, va_cpy, if_pos ⟨by omega, by omega⟩, u2_at, show 0 + (x - 0) = x by omega, q3]
              · unfold vF2 vF1; rw [u2_n2 _ _ _ _ (show 4 ≠ 5 by omega), u2_at, fb_put_in (by omega) (by omega)]
              · unfold vF2 vF1; rw [u2_at, fb_put_in (by omega) (by omega)]
            · intro x hx
              have q3 := wv_in (lE L) (vF 0 2) 0 x (by rw [lE_l]; exact hx)
              rw [Nat.zero_add] at q3
              refine ⟨?_, rfl, rfl⟩
              unfold vF2 vF1; rw [u2_n2 _ _ _ _ (show 2 ≠ 5 by omega), u2_n2 _ _ _ _ (show 2 ≠ 4 by omega), u2_n2 _ _ _ _ (show 2 ≠ 3 by omega), u2_at, q3]
            · intro x hx
              obtain ⟨a, b, c, d, f⟩ := wx x hx
              exact ⟨b, c, d, f⟩
            · have : q = 0 ∨ q = 1 ∨ q = 2 := by omega
              rcases this with rfl | rfl | rfl
              · unfold vS2; rw [u2_n1 _ _ _ (show 1 + 0 ≠ 3 by omega), u2_n1 _ _ _ (show 1 + 0 ≠ 2 by omega), u2_at]
              · unfold vS2; rw [u2_n1 _ _ _ (show 1 + 1 ≠ 3 by omega), u2_at]
              · unfold vS2; rw [u2_at]
            · rw [up_at]
              have : q = 0 ∨ q = 1 ∨ q = 2 := by omega
              rcases this with rfl | rfl | rfl
              · rw [upd_ne _ _ (by omega), upd_ne _ _ (by omega), upd_at]
              · rw [upd_ne _ _ (by omega), upd_at]
              · rw [upd_at]
      · have n9 : ¬ nI y = -9 := fun q => by
          have := congrArg Int32.toInt q
          rw [toI_nI (by omega)] at this
          have z : (-9 : Int32).toInt = -9 := rfl
          omega
        refine ⟨-4, gi, ga, vS, vF, M3 mi i' e p', ma', ?_, ?_, Rel_fr R (fun q hq => M3_lo _ _ _ _ hq) (fun q hq => g2 q (by omega))⟩
        · rw [X8_village, h1, Option.bind_some, if_neg one_ne, gd_nI hr (by omega), cl_nI (by omega), isMissingC, if_pos hpos, Option.bind_some, if_pos rfl, gd_nI hr (by omega), ec, Option.bind_some, if_neg n9]
        · rw [X9_village, h2, Option.bind_some, if_neg one_ne, gd_nI hr (by omega), cl_nI (by omega), ← e1, if_pos hpos, g1, bd2_some, M3_6, ee, if_neg (nI_pos (by omega))]
  · refine ⟨-1, gi, ga, vS, vF, mi, ma, ?_, ?_, R⟩
    · rw [X8_village, h1, Option.bind_some, if_pos rfl]
    · rw [X9_village, h2, Option.bind_some, if_pos rfl]
end
