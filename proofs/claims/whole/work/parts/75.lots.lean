theorem lN_I {n : Nat} (h : n < 2 ^ 63) : (lN n).toInt = (n : Int) := lg_ofNat_toInt (by omega)
theorem lN_div {a d : Nat} (ha : a < 2 ^ 63) (h0 : 0 < d) (hd : d < 2 ^ 63) : lN a / lN d = lN (a / d) := by
  have hq : a / d < 2 ^ 63 := Nat.lt_of_le_of_lt (Nat.div_le_self a d) ha
  apply Int64.toInt_inj.mp
  rw [Int64.toInt_div_of_ne_right _ _ (fun w => by
    have := congrArg Int64.toInt w
    rw [lN_I hd, show ((-1 : Int64).toInt) = -1 from rfl] at this; omega), lN_I ha, lN_I hd, lN_I hq]
  exact (Int.ofNat_tdiv a d).symm
theorem lN_rem {a d : Nat} (ha : a < 2 ^ 63) (h0 : 0 < d) (hd : d < 2 ^ 63) : lN a - lN a / lN d * lN d = lN (a % d) := by
  have e := Nat.div_add_mod a d
  have hm : a / d * d ≤ a := Nat.div_mul_le_self a d
  rw [lN_div ha h0 hd, lN_mul, lN_sub hm]
  congr 1
  rw [Nat.mul_comm] at e; omega
theorem nI_L {a : Nat} (h : a < 2 ^ 31) : (nI a).toInt64 = lN a := by
  apply Int64.toInt_inj.mp
  rw [ti64, toI_nI h, lN_toInt h]
theorem gn_no {α : Type} {c : Prop} [Decidable c] {k : Option α} (h : ¬ c) : gn c k = k := by rw [gn, if_neg h]
theorem bd2_id {α β : Type} (o : Option (α × β)) : bd2 o (fun a b => some (a, b)) = o := by
  cases o with
  | none => rfl
  | some z => rfl
section
variable {P n : Nat} {k t l h a l' h' a' : Nat → Int32} {d d' : Int32} {vS vS' : Nat → Nat → Int32} {vF vF' : Nat → Nat → Nat → Int32} {D D' : Nat → Nat} {mi mi' : Nat → Int32} {ma ma' : Nat → Nat → Int32}
variable {gi : Nat → Int32} {gl : Nat → Int64} {ga : Nat → Nat → Int32} {sN : Nat → Int32} {sF : Nat → Nat → Int32} {ml : Nat → Int64}
/-- the b-th that one may TOUCH -/
def tgA (D : Nat → Nat) : Nat → Nat → Nat → Int32
  | 0, _, _ => 9
  | q + 1, i, b => if D i = 0 then tgA D q (i + 1) b else if b = 0 then nI i else tgA D q (i + 1) (b - 1)
theorem tgA_ok (P : Nat) : ∀ q i b, i + q = P → tgA D q i b = 9 ∨ ∃ u, u < P ∧ tgA D q i b = nI u ∧ D u ≠ 0
  | 0, _, _, _ => Or.inl rfl
  | q + 1, i, b, e => by
    rw [tgA]
    by_cases hd : D i = 0
    · rw [if_pos hd]; exact tgA_ok P q (i + 1) b (by omega)
    · rw [if_neg hd]
      by_cases hb : b = 0
      · rw [if_pos hb]; exact Or.inr ⟨i, by omega, rfl, hd⟩
      · rw [if_neg hb]; exact tgA_ok P q (i + 1) (b - 1) (by omega)
theorem nI_m1 {b : Nat} (h : b ≠ 0) (hb : b < 2 ^ 30) : nI b + (-1 : Int32) = nI (b - 1) := by
  have e := pk_sub (a := b) (b := 1) (by omega)
  rw [← e]
  exact (Int32.sub_eq_add_neg (nI b) (nI 1)).symm
theorem targetC (c : CV P k t l h a d vS vF) (o : OKV P k t h a D) {b : Nat} (hb : b < 2 ^ 30) : X7_targetAt vS vF (nI b) = some (tgA D P 0 b) := by
  have h7 := o.1
  have key : ∀ q i b n, i + q = P → q < n → b < 2 ^ 30 → X7_targetAt_4 vS vF n (nI b) (nI i) = some (tgA D q i b) := by
    intro q
    induction q with
    | zero =>
      intro i b n e1 e2 _
      obtain ⟨n, rfl⟩ : ∃ z, n = z + 1 := ⟨n - 1, by omega⟩
      rw [X7_targetAt_4, c.1, if_pos (nI_le (by omega) (by omega)), tgA]
    | succ q ih =>
      intro i b n e1 e2 hb
      obtain ⟨n, rfl⟩ : ∃ z, n = z + 1 := ⟨n - 1, by omega⟩
      rw [X7_targetAt_4, c.1, if_neg (nI_ge (by omega) (by omega)), isStuckC c o (by omega), Option.bind_some, nI_1, ih (i + 1) b n (by omega) (by omega) hb, tgA]
      by_cases hd : D i = 0
      · rw [if_pos hd, if_pos rfl, if_pos hd]
      · rw [if_neg hd, if_neg one_ne, if_neg hd]
        by_cases b0 : b = 0
        · rw [if_pos (show nI b = 0 by rw [b0]; rfl), if_pos b0]
        · rw [if_neg (nI_ne0 (by omega) (by omega)), if_neg b0, nI_m1 b0 hb, ih (i + 1) (b - 1) n (by omega) (by omega) (by omega)]
  exact key P 0 b 500 (by omega) (by omega) hb
theorem targetM (m : MV P k t l h a d mi ma) (o : OKV P k t h a D) {v4 v6 : Int32} {b : Nat} (hb : b < 2 ^ 30) : X9_touchAt_123 500 v4 v6 (nI b) 0 (nI (bset (stk D) P)) mi ma = bd3 (X9_touch v4 v6 (tgA D P 0 b) mi ma) (fun _ mi' ma' => some (mi', ma')) := by
  have h7 := o.1
  have hst : bset (stk D) P < 128 := bset_lt7 h7
  have key : ∀ q i b n, i + q = P → q < n → b < 2 ^ 30 → X9_touchAt_123 n v4 v6 (nI b) (nI i) (nI (bset (stk D) P)) mi ma = bd3 (X9_touch v4 v6 (tgA D q i b) mi ma) (fun _ mi' ma' => some (mi', ma')) := by
    intro q
    induction q with
    | zero =>
      intro i b n e1 e2 _
      obtain ⟨n, rfl⟩ : ∃ z, n = z + 1 := ⟨n - 1, by omega⟩
      have : i = P := by omega
      subst this
      rw [X9_touchAt_123, m.1, if_pos (nI_le (by omega) (by omega)), X9_touchAt_173, m.1, if_pos rfl, tgA]
    | succ q ih =>
      intro i b n e1 e2 hb
      obtain ⟨n, rfl⟩ : ∃ z, n = z + 1 := ⟨n - 1, by omega⟩
      have eb : (bset (stk D) P).testBit i = decide (D i ≠ 0) := by
        rw [bset_bit]; simp [stk]; omega
      have z0 : nI b - 0 = nI b := by simp
      rw [X9_touchAt_123, m.1, if_neg (nI_ge (by omega) (by omega)), hasM _ hst i (by omega), Option.bind_some, X9_touchAt_147, hasM _ hst i (by omega), Option.bind_some, X9_touchAt_173, m.1, nI_1, z0, ih (i + 1) b n (by omega) (by omega) hb, tgA, eb]
      by_cases hd : D i = 0
      · simp [hd]
      · rw [if_neg hd]
        have e1' : ¬ (if decide (D i ≠ 0) = true then (1 : Int32) else 0) = 0 := by simp [hd]
        rw [if_neg e1', if_neg e1']
        by_cases b0 : b = 0
        · rw [if_pos (show nI b = 0 by rw [b0]; rfl), if_pos b0, if_neg (fun w => by have := (nI_eq (by omega) (by omega)).mp w; omega)]
        · rw [if_neg (nI_ne0 (by omega) (by omega)), if_neg b0, show nI b - 1 = nI (b - 1) from pk_sub (a := b) (b := 1) (by omega), ih (i + 1) (b - 1) n (by omega) (by omega) (by omega)]
  exact key P 0 b 500 (by omega) (by omega) hb
/-- which TOUCH it is -/
def sel (k : Nat → Int32) (D : Nat → Nat) (T : Nat) : Nat → Nat → Nat → Option (Nat × Nat × Nat)
  | 0, _, _ => none
  | q + 1, i, b => if b < hnd k D i * T then some (i, if hnd k D i = 1 then 1 else b / T, b % T) else sel k D T q (i + 1) (b - hnd k D i * T)
theorem sel_ok (P T : Nat) (hT : 0 < T) : ∀ q i b i' g e, i + q = P → sel k D T q i b = some (i', g, e) → i' < P ∧ D i' = 0 ∧ (g = 0 ∨ g = 1) ∧ ¬ (g = 0 ∧ IA (k i') 1 = true) ∧ e < T
  | 0, _, _, _, _, _, _, h => by cases h
  | q + 1, i, b, i', g, e, hq, hs => by
    rw [sel] at hs
    by_cases hb : b < hnd k D i * T
    · rw [if_pos hb] at hs
      injection hs with hs
      injection hs with h1 hs
      injection hs with h2 h3
      subst h1; subst h2; subst h3
      have hm := Nat.mod_lt b hT
      by_cases hd : D i = 0
      · cases hI : IA (k i) 1
        · have eh : hnd k D i = 2 := by simp [hnd, hd, hI]
          rw [eh] at hb ⊢
          rw [if_neg (by omega)]
          have hlt : b / T < 2 := (Nat.div_lt_iff_lt_mul hT).mpr hb
          refine ⟨by omega, hd, ?_, (fun z => Bool.noConfusion z.2), hm⟩
          generalize b / T = w at hlt ⊢
          omega
        · have eh : hnd k D i = 1 := by simp [hnd, hd, hI]
          rw [eh, if_pos rfl]
          exact ⟨by omega, hd, Or.inr rfl, fun z => by have := z.1; omega, hm⟩
      · have eh : hnd k D i = 0 := by simp [hnd, hd]
        rw [eh, Nat.zero_mul] at hb; omega
    · rw [if_neg hb] at hs
      exact sel_ok P T hT q (i + 1) _ i' g e (by omega) hs
theorem sel_some (T : Nat) : ∀ q i b, b < smN (fun j => hnd k D (i + j)) q * T → ∃ z, sel k D T q i b = some z
  | 0, i, b, hb => by rw [smN] at hb; omega
  | q + 1, i, b, hb => by
    rw [sel]
    by_cases hc : b < hnd k D i * T
    · rw [if_pos hc]; exact ⟨_, rfl⟩
    · rw [if_neg hc]
      apply sel_some T q (i + 1)
      have e : smN (fun j => hnd k D (i + j)) (q + 1) = hnd k D i + smN (fun j => hnd k D (i + 1 + j)) q := by
        clear hb hc
        induction q with
        | zero => simp [smN]
        | succ q ih => rw [smN, ih, smN, show i + (q + 1) = i + 1 + q by omega]; omega
      rw [e, Nat.add_mul] at hb
      omega
theorem doTouchC (c : CV P k t l h a d vS vF) (o : OKV P k t h a D) {T : Nat} (hT : 0 < T) (hT8 : T ≤ 8) : ∀ q i b n, i + q = P → q < n → b < 2 ^ 20 → X7_doTouch_12 n (nI T) (nI b) (nI i) vS vF = match sel k D T q i b with
    | none => some (vS, vF)
    | some (i', g, e) => X7_doDeed 0 (nI i') (nI g) (tgA D P 0 e) vS vF := by
  have h7 := o.1
  intro q
  induction q with
  | zero =>
    intro i b n e1 e2 _
    obtain ⟨n, rfl⟩ : ∃ z, n = z + 1 := ⟨n - 1, by omega⟩
    rw [X7_doTouch_12, c.1, if_pos (nI_le (by omega) (by omega)), sel]
  | succ q ih =>
    intro i b n e1 e2 hb
    obtain ⟨n, rfl⟩ : ∃ z, n = z + 1 := ⟨n - 1, by omega⟩
    rw [X7_doTouch_12, c.1, if_neg (nI_ge (by omega) (by omega))]
    have sb : ∀ y : Int32, X7_sticksBy vS vF (nI i) y = some (if y = 0 ∧ IA (k i) 1 = true then 0 else 1) := fun y => sticksByC c o (by omega) y
    have e2' : ∀ m v, X7_doTouch_24 (X7_doTouch_12 n) (m + 1) (nI T) v (nI i) 2 vS vF = X7_doTouch_12 n (nI T) v (nI (i + 1)) vS vF := fun m v => by
      rw [X7_doTouch_24, if_pos (by decide), nI_1]
    have one1 : (1 : Int32) + 1 = 2 := rfl
    have zer1 : (0 : Int32) + 1 = 1 := rfl
    have e1' : ∀ m v, v < 2 ^ 20 → X7_doTouch_24 (X7_doTouch_12 n) (m + 2) (nI T) (nI v) (nI i) 1 vS vF = if D i = 0 then (if T ≤ v then X7_doTouch_12 n (nI T) (nI (v - T)) (nI (i + 1)) vS vF else X7_doDeed 0 (nI i) 1 (tgA D P 0 v) vS vF) else X7_doTouch_12 n (nI T) (nI v) (nI (i + 1)) vS vF := fun m v hv => by
      rw [X7_doTouch_24, if_neg (by decide), isStuckC c o (by omega), Option.bind_some, sb, Option.bind_some, one1, e2', targetC c o (by omega), Option.bind_some, bd2_id, if_neg (show ¬ ((1 : Int32) = 0 ∧ IA (k i) 1 = true) from fun z => one_ne z.1), if_neg one_ne]
      by_cases hd : D i = 0
      · rw [if_pos hd, if_pos rfl, if_pos hd]
        by_cases hv2 : T ≤ v
        · rw [if_pos (nI_le hv2 (by omega)), if_pos hv2, pk_sub hv2, e2']
        · rw [if_neg (nI_ge (by omega) (by omega)), if_neg hv2]
      · rw [if_neg hd, if_neg one_ne, if_neg hd]
    rw [show (500 : Nat) = 497 + 2 + 1 from rfl, X7_doTouch_24, if_neg (by decide), isStuckC c o (by omega), Option.bind_some, sb, Option.bind_some, zer1, e1' 497 b hb, targetC c o (by omega), Option.bind_some, bd2_id, sel]
    by_cases hd : D i = 0
    · rw [if_pos hd, if_pos rfl, if_pos hd]
      cases hI : IA (k i) 1
      · have eh : hnd k D i = 2 := by simp [hnd, hd, hI]
        rw [if_neg (show ¬ ((0 : Int32) = 0 ∧ false = true) from fun z => by cases z.2), if_neg one_ne, eh, if_neg (show ¬ (2 = 1) by omega)]
        by_cases h1 : T ≤ b
        · rw [if_pos (nI_le h1 (by omega)), pk_sub h1, e1' 497 (b - T) (by omega), if_pos hd]
          by_cases h2 : T ≤ b - T
          · rw [if_pos h2, if_neg (by omega), ih (i + 1) (b - T - T) n (by omega) (by omega) (by omega), show b - T - T = b - 2 * T by omega]
          · have q1 : b / T = 1 := by
              have u1 : b / T < 2 := (Nat.div_lt_iff_lt_mul hT).mpr (by omega)
              have u2 : 1 ≤ b / T := (Nat.le_div_iff_mul_le hT).mpr (by omega)
              generalize b / T = w at u1 u2 ⊢
              omega
            have q2 : b % T = b - T := by
              have e := Nat.div_add_mod b T
              rw [q1] at e; omega
            rw [if_neg h2, if_pos (by omega), q1, q2]; rfl
        · rw [if_neg (nI_ge (by omega) (by omega)), if_pos (by omega), Nat.div_eq_of_lt (by omega), Nat.mod_eq_of_lt (by omega)]; rfl
      · have eh : hnd k D i = 1 := by simp [hnd, hd, hI]
        rw [if_pos (show (0 : Int32) = 0 ∧ true = true from ⟨rfl, rfl⟩), if_pos rfl, eh, Nat.one_mul, if_pos (rfl : 1 = 1)]
        by_cases h1 : T ≤ b
        · rw [if_pos h1, if_neg (by omega), ih (i + 1) (b - T) n (by omega) (by omega) (by omega)]
        · rw [if_neg h1, if_pos (by omega), Nat.mod_eq_of_lt (by omega)]; rfl
    · have eh : hnd k D i = 0 := by simp [hnd, hd]
      rw [if_neg hd, if_neg one_ne, if_neg hd, eh, Nat.zero_mul, if_neg (by omega), ih (i + 1) b n (by omega) (by omega) hb, Nat.sub_zero]
theorem touchAtM (m : MV P k t l h a d mi ma) (o : OKV P k t h a D) {T : Nat} (hT : 0 < T) (hT8 : T ≤ 8) : ∀ q i b n, i + (q + 1) = P → q < n → b < 2 ^ 20 → b < smN (fun j => hnd k D (i + j)) (q + 1) * T → X9_touchAt_43 n (nI b) (nI T) (nI i) (nI (hnd k D i)) mi ma = match sel k D T (q + 1) i b with
    | none => none
    | some (i', g, e) => bd3 (X9_touch (nI i') (nI g) (tgA D P 0 e) mi ma) (fun _ mi' ma' => some (mi', ma')) := by
  have h7 := o.1
  have hst := stuckSetM m o
  have head : ∀ i b n, i < P → b < 2 ^ 20 → b < hnd k D i * T → X9_touchAt_43 (n + 1) (nI b) (nI T) (nI i) (nI (hnd k D i)) mi ma = bd3 (X9_touch (nI i) (nI (if hnd k D i = 1 then 1 else b / T)) (tgA D P 0 (b % T)) mi ma) (fun _ mi' ma' => some (mi', ma')) := by
    intro i b n hi hb hlt
    have h2 := hnd2 k D i
    have hmt := Nat.mod_lt b hT
    have hm20 : b % T < 2 ^ 30 := by omega
    have hh : hnd k D i * T ≤ 2 * T := Nat.mul_le_mul_right T h2
    rw [X9_touchAt_43, pk_mul, if_pos (nI_lt hlt (by omega)), gn_no (nI_ne0 (by omega) (by omega)), gn_no (nI_ne0 (by omega) (by omega)), gn_no (nI_ne0 (by omega) (by omega)), hst, Option.bind_some, Option.bind_some, pk_rem (by omega) hT (by omega), pk_div (by omega) hT (by omega), targetM m o hm20, targetM m o hm20]
    by_cases e : hnd k D i = 1
    · rw [if_pos (show nI (hnd k D i) = 1 by rw [e]; rfl), if_pos e]; rfl
    · rw [if_neg (show ¬ nI (hnd k D i) = (1 : Int32) from fun w => e ((nI_eq (b := 1) (by omega) (by omega)).mp w)), if_neg e]
  intro q
  induction q with
  | zero =>
    intro i b n e1 e2 hb hlt
    obtain ⟨n, rfl⟩ : ∃ z, n = z + 1 := ⟨n - 1, by omega⟩
    have hlt' : b < hnd k D i * T := by simpa [smN] using hlt
    rw [sel, if_pos hlt', head i b n (by omega) hb hlt']
  | succ q ih =>
    intro i b n e1 e2 hb hlt
    obtain ⟨n, rfl⟩ : ∃ z, n = z + 1 := ⟨n - 1, by omega⟩
    rw [sel]
    by_cases hlt' : b < hnd k D i * T
    · rw [if_pos hlt', head i b n (by omega) hb hlt']
    · have h2 := hnd2 k D i
      have hh : hnd k D i * T ≤ 2 * T := Nat.mul_le_mul_right T h2
      have rest : b - hnd k D i * T < smN (fun j => hnd k D (i + 1 + j)) (q + 1) * T := by
        have e : ∀ q, smN (fun j => hnd k D (i + j)) (q + 1) = hnd k D i + smN (fun j => hnd k D (i + 1 + j)) q := by
          intro q
          induction q with
          | zero => simp [smN]
          | succ q ih => rw [smN, ih, smN, show i + (q + 1) = i + 1 + q by omega]; omega
        rw [e, Nat.add_mul] at hlt
        omega
      rw [if_neg hlt', X9_touchAt_43, pk_mul, if_neg (nI_nlt (by omega) (by omega)), nI_1, isStuckM m o (show i + 1 < P by omega), Option.bind_some, sticksM m o (show i + 1 < P by omega) (Or.inl rfl), Option.bind_some, pk_sub (by omega), ← ih (i + 1) (b - hnd k D i * T) n (by omega) (by omega) (by omega) rest]
      by_cases hd : D (i + 1) = 0
      · cases hI : IA (k (i + 1)) 1
        · have eh : hnd k D (i + 1) = 2 := by simp [hnd, hd, hI]
          rw [if_pos hd, if_pos rfl, if_neg (show ¬ ((0 : Int32) = 0 ∧ false = true) from fun z => by cases z.2), if_neg one_ne, eh]; rfl
        · have eh : hnd k D (i + 1) = 1 := by simp [hnd, hd, hI]
          rw [if_pos hd, if_pos rfl, if_pos (show (0 : Int32) = 0 ∧ true = true from ⟨rfl, rfl⟩), if_pos rfl, eh]; rfl
      · have eh : hnd k D (i + 1) = 0 := by simp [hnd, hd]
        rw [if_neg hd, if_neg one_ne, eh]; rfl
end
