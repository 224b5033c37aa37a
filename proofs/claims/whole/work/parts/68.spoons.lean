/-- the best set among those below a number -/
noncomputable def BB (S : Nat) (Q : Nat → Prop) : Nat → Nat
  | 0 => S
  | n + 1 => have := Classical.propDecidable (n &&& (127 ^^^ S) = 0 ∧ pcn n < pcn (BB S Q n) ∧ Q n); if n &&& (127 ^^^ S) = 0 ∧ pcn n < pcn (BB S Q n) ∧ Q n then n else BB S Q n
theorem BB_yes {S n : Nat} {Q : Nat → Prop} (q : n &&& (127 ^^^ S) = 0 ∧ pcn n < pcn (BB S Q n) ∧ Q n) : BB S Q (n + 1) = n := by
  rw [BB]; exact if_pos q
theorem BB_no {S n : Nat} {Q : Nat → Prop} (q : ¬ (n &&& (127 ^^^ S) = 0 ∧ pcn n < pcn (BB S Q n) ∧ Q n)) : BB S Q (n + 1) = BB S Q n := by
  rw [BB]; exact if_neg q
theorem BB_in {S : Nat} {Q : Nat → Prop} (hS : S < 128) : ∀ n, n ≤ 128 → (BB S Q n = S ∨ BB S Q n < n) ∧ BB S Q n < 128 := by
  intro n
  induction n with
  | zero => intro _; exact ⟨Or.inl rfl, hS⟩
  | succ n ih =>
    intro hn
    obtain ⟨i1, i2⟩ := ih (by omega)
    by_cases q : n &&& (127 ^^^ S) = 0 ∧ pcn n < pcn (BB S Q n) ∧ Q n
    · rw [BB_yes q]; exact ⟨Or.inr (by omega), by omega⟩
    · rw [BB_no q]
      exact ⟨i1.elim Or.inl (fun z => Or.inr (by omega)), i2⟩
theorem BB_far {P S : Nat} {Q : Nat → Prop} (hS : S < 2 ^ P) (h8 : S < 128) : ∀ n, 2 ^ P + n ≤ 128 → BB S Q (2 ^ P + n) = BB S Q (2 ^ P) := by
  intro n
  induction n with
  | zero => intro _; rfl
  | succ n ih =>
    intro hn
    rw [← Nat.add_assoc, BB_no, ih (by omega)]
    intro z
    have := sub_le _ h8 (2 ^ P + n) (by omega) z.1
    omega
/-- all of those that belong to one of a set -/
def UF (f : Nat → Nat) (c : Nat) : Nat → Nat
  | 0 => 0
  | n + 1 => if c.testBit n then UF f c n ||| f n else UF f c n
theorem UF_bit (f : Nat → Nat) (c z : Nat) : ∀ n, ((UF f c n).testBit z = true ↔ ∃ i, i < n ∧ c.testBit i = true ∧ (f i).testBit z = true)
  | 0 => by simp [UF]
  | n + 1 => by
    have ih := UF_bit f c z n
    rw [UF]
    by_cases hb : c.testBit n = true
    · rw [if_pos hb, Nat.testBit_or, Bool.or_eq_true, ih]
      constructor
      · rintro (⟨i, h1, h2, h3⟩ | q)
        · exact ⟨i, by omega, h2, h3⟩
        · exact ⟨n, by omega, hb, q⟩
      · rintro ⟨i, h1, h2, h3⟩
        rcases Nat.lt_or_ge i n with w | w
        · exact Or.inl ⟨i, w, h2, h3⟩
        · have : i = n := by omega
          subst this; exact Or.inr h3
    · rw [if_neg hb, ih]
      constructor
      · rintro ⟨i, h1, h2, h3⟩; exact ⟨i, by omega, h2, h3⟩
      · rintro ⟨i, h1, h2, h3⟩
        rcases Nat.lt_or_ge i n with w | w
        · exact ⟨i, w, h2, h3⟩
        · have : i = n := by omega
          subst this; exact absurd h2 hb
theorem UF_lt (f : Nat → Nat) (c : Nat) (hf : ∀ i, f i < 128) : ∀ n, UF f c n < 128
  | 0 => by rw [UF]; omega
  | n + 1 => by
    have ih := UF_lt f c hf n
    rw [UF]
    split
    · exact Nat.or_lt_two_pow (n := 7) ih (hf n)
    · exact ih
theorem sub_mem (S c : Nat) (hc : c < 128) (e : c &&& (127 ^^^ S) = 0) (i : Nat) (hi : i < 7) (hb : c.testBit i = true) : S.testBit i = true := by
  have := congrArg (fun z => z.testBit i) e
  have h127 : ∀ i, i < 7 → (127 : Nat).testBit i = true := by decide
  simp only [Nat.testBit_and, Nat.testBit_xor, hb, h127 i hi, Nat.zero_testBit] at this
  simpa using this
theorem bit7 {c i : Nat} (hc : c < 128) (hb : c.testBit i = true) : i < 7 := by
  rcases Nat.lt_or_ge i 7 with q | q
  · exact q
  · have : c < 2 ^ i := Nat.lt_of_lt_of_le hc (Nat.pow_le_pow_right (n := 2) (by omega) q)
    rw [Nat.testBit_lt_two_pow this] at hb; cases hb
section
variable {P : Nat} {k t l h a : Nat → Int32} {d : Int32} {vS : Nat → Nat → Int32} {vF : Nat → Nat → Nat → Int32} {D : Nat → Nat} {mi : Nat → Int32} {ma : Nat → Nat → Int32}
variable {gi : Nat → Int32} {gl : Nat → Int64} {ga : Nat → Nat → Int32} {sN : Nat → Int32} {sF : Nat → Nat → Int32} {ml : Nat → Int64}
def fs (P : Nat) (k h : Nat → Int32) (D : Nat → Nat) (x : Nat) : Nat := if x < P then bset (FB P k h D x) P else 0
def gs (P : Nat) (k h : Nat → Int32) (D : Nat → Nat) (x : Nat) : Nat := bset (FM P k h D x) P
theorem fs_lt (h7 : P ≤ 7) (x : Nat) : fs P k h D x < 128 := by
  unfold fs; split
  · exact bset_lt7 h7
  · omega
theorem gs_lt (h7 : P ≤ 7) (x : Nat) : gs P k h D x < 128 := bset_lt7 h7
theorem UF_eq (o : OKV P k t h a D) {c : Nat} (hc : c < 128) (e : c &&& (127 ^^^ bset (stk D) P) = 0) : UF (fs P k h D) c 7 = c ||| UF (gs P k h D) c P := by
  have h7 := o.1
  apply Nat.eq_of_testBit_eq
  intro z
  have hs : ∀ i, c.testBit i = true → i < P ∧ D i ≠ 0 := by
    intro i hi
    have := sub_mem _ c hc e i (bit7 hc hi) hi
    rw [bset_bit] at this
    simpa [stk] using this
  rw [Bool.eq_iff_iff, UF_bit, Nat.testBit_or, Bool.or_eq_true, UF_bit]
  constructor
  · rintro ⟨i, h1, h2, h3⟩
    obtain ⟨p1, p2⟩ := hs i h2
    rw [fs, if_pos p1, bset_bit] at h3
    simp only [Bool.and_eq_true, decide_eq_true_eq, FB, Bool.or_eq_true] at h3
    by_cases ez : z = i
    · subst ez; exact Or.inl h2
    · refine Or.inr ⟨i, p1, h2, ?_⟩
      rw [gs, bset_bit]
      have := h3.2.2.resolve_left ez
      simp [FM, h3.1, ez, this]
  · rintro (q | ⟨i, h1, h2, h3⟩)
    · obtain ⟨p1, p2⟩ := hs z q
      refine ⟨z, by omega, q, ?_⟩
      rw [fs, if_pos p1, bset_bit]
      simp [FB, p1, stk, p2]
    · obtain ⟨p1, p2⟩ := hs i h2
      refine ⟨i, by omega, h2, ?_⟩
      rw [gs, bset_bit] at h3
      simp only [Bool.and_eq_true, decide_eq_true_eq, FM] at h3
      rw [fs, if_pos p1, bset_bit]
      simp [FB, h3.1, stk, p2, h3.2.2]
/-- the fed, found one by one -/
def GF (P : Nat) (k h : Nat → Int32) (D : Nat → Nat) (ga : Nat → Nat → Int32) : Nat → Nat → Nat → Int32
  | 0 => ga
  | n + 1 => va_up (GF P k h D ga n) 0 (upd (GF P k h D ga n 0) n (nI (fs P k h D n)))
theorem GF_4 : ∀ n, GF P k h D ga n 4 = ga 4
  | 0 => rfl
  | n + 1 => by rw [GF, up_ne _ _ (by omega), GF_4 n]
theorem GF_0 : ∀ n j, j < n → GF P k h D ga n 0 j = nI (fs P k h D j)
  | 0, j, hj => by omega
  | n + 1, j, hj => by
    rw [GF, up_at, upd]
    by_cases e : j = n
    · rw [if_pos e, e]
    · rw [if_neg e, GF_0 n j (by omega)]
theorem fedByAllC (h7 : P ≤ 7) (hg : ∀ j, j < 7 → ga 0 j = nI (fs P k h D j)) {s : Nat} (hs : s < 128) : X0_fedByAll ga (nI s) = some (nI (UF (fs P k h D) s 7)) := by
  rw [X0_fedByAll]
  refine lu3 (X0_fedByAll_4 ga) (fun _ => nI s) (fun i => nI (UF (fs P k h D) s i)) nI 7 _ ?_ ?_ 0 500 (by omega) (by omega)
  · intro n i hi
    rw [X0_fedByAll_4, show (7 : Int32) = nI 7 from rfl, if_neg (nI_ge hi (by omega)), sh_bit s hs i hi, gd_nI hi (by omega), cl_nI (by omega), hg i hi, fa_or, nI_1, UF]
    cases s.testBit i <;> simp
  · intro n
    rw [X0_fedByAll_4, show (7 : Int32) = nI 7 from rfl, if_pos (nI_le (Nat.le_refl _) (by omega))]
def QS (P : Nat) (k h : Nat → Int32) (D : Nat → Nat) (c : Nat) : Prop := UF (fs P k h D) c 7 = bset (stk D) P
theorem fewestC (c : CV P k t l h a d vS vF) (o : OKV P k t h a D) : X0_fewestSpoons vS vF ga = some (nI (BB (bset (stk D) P) (QS P k h D) 128), GF P k h D ga 7) := by
  have h7 := o.1
  have hst : bset (stk D) P < 128 := bset_lt7 h7
  have lo : X0_fewestSpoons_35 vS vF 500 (nI (bset (stk D) P)) (nI (bset (stk D) P)) 0 (GF P k h D ga 7) = some (nI (BB (bset (stk D) P) (QS P k h D) 128), GF P k h D ga 7) := by
    refine lu4 (X0_fewestSpoons_35 vS vF) (fun _ => nI (bset (stk D) P)) (fun i => nI (BB (bset (stk D) P) (QS P k h D) i)) nI (fun _ => GF P k h D ga 7) 128 _ ?_ ?_ 0 500 (by omega) (by omega)
    · intro n i hi
      obtain ⟨-, hb⟩ := BB_in (Q := QS P k h D) hst i (by omega)
      have p1 := pcn7 i hi
      have p2 := pcn7 _ hb
      have hu := UF_lt (fs P k h D) i (fs_lt h7) 7
      rw [X0_fewestSpoons_35, show (128 : Int32) = nI 128 from rfl, if_neg (nI_ge hi (by omega)), bitc i hi, Option.bind_some, bitc _ hb, Option.bind_some, X0_fewestSpoons_60, X0_fewestSpoons_60, if_pos rfl, if_neg one_ne, fedByAllC h7 (GF_0 7) hi, Option.bind_some, nI_1]
      by_cases q1 : pcn i < pcn (BB (bset (stk D) P) (QS P k h D) i)
      · rw [if_neg (nI_ge q1 (by omega))]
        by_cases q2 : i &&& (127 ^^^ bset (stk D) P) = 0
        · rw [if_pos ((sub_bit _ hst i hi).mpr q2)]
          by_cases q3 : UF (fs P k h D) i 7 = bset (stk D) P
          · rw [BB_yes ⟨q2, q1, q3⟩, if_pos (by rw [q3])]
          · rw [BB_no (Q := QS P k h D) (n := i) (fun z => q3 z.2.2), if_neg (fun w => q3 ((nI_eq (by omega) (by omega)).mp w))]
        · rw [if_neg (fun z => q2 ((sub_bit _ hst i hi).mp z)), BB_no (fun z => q2 z.1)]
      · rw [if_pos (nI_le (by omega) (by omega)), BB_no (fun z => q1 z.2.1)]
    · intro n
      rw [X0_fewestSpoons_35, show (128 : Int32) = nI 128 from rfl, if_pos (nI_le (Nat.le_refl _) (by omega))]
  rw [X0_fewestSpoons, stuckSetC c o, Option.bind_some]
  refine lu3 (X0_fewestSpoons_7 vS vF) (fun _ => nI (bset (stk D) P)) nI (GF P k h D ga) 7 _ ?_ ?_ 0 500 (by omega) (by omega)
  · intro n i hi
    rw [X0_fewestSpoons_7, show (7 : Int32) = nI 7 from rfl, if_neg (nI_ge hi (by omega)), fedByC c o hi, Option.bind_some, gd_nI hi (by omega), cl_nI (by omega), lt_, nI_1]; rfl
  · intro n
    rw [X0_fewestSpoons_7, show (7 : Int32) = nI 7 from rfl, if_pos (nI_le (Nat.le_refl _) (by omega)), lo]
theorem spoonsM (m : MV P k t l h a d mi ma) (o : OKV P k t h a D) : X9_spoons ma mi = some (nI (pcn (BB (bset (stk D) P) (QS P k h D) 128)), va_up mi 3 (nI (BB (bset (stk D) P) (QS P k h D) 128))) := by
  have h7 := o.1
  have hst : bset (stk D) P < 128 := bset_lt7 h7
  have h2P := p2le P h7
  have efar := BB_far (Q := QS P k h D) (bset_lt (stk D) P) hst (128 - 2 ^ P) (by omega)
  rw [show 2 ^ P + (128 - 2 ^ P) = 128 by omega] at efar
  rw [X9_spoons, stuckSetM m o, Option.bind_some]
  refine lu2 (fun n (x y : Int32) => X9_spoons_9 ma n (nI (bset (stk D) P)) x y mi) (fun i => nI (BB (bset (stk D) P) (QS P k h D) i)) nI (2 ^ P) _ ?_ ?_ 0 500 (Nat.zero_le _) (by omega)
  · intro n i hi
    show X9_spoons_9 ma (n + 1) (nI (bset (stk D) P)) (nI (BB (bset (stk D) P) (QS P k h D) i)) (nI i) mi = X9_spoons_9 ma n (nI (bset (stk D) P)) (nI (BB (bset (stk D) P) (QS P k h D) (i + 1))) (nI (i + 1)) mi
    have hi8 : i < 128 := by omega
    obtain ⟨hb1, hb⟩ := BB_in (Q := QS P k h D) hst i (by omega)
    have p1 := pcn7 i hi8
    have p2 := pcn7 _ hb
    rw [X9_spoons_9, m.1, shl1 P h7, if_neg (nI_ge hi (by omega))]
    have key := lu2 (fun n2 (x y : Int32) => X9_spoons_25 ma (X9_spoons_9 ma n) n2 (nI (bset (stk D) P)) (nI (BB (bset (stk D) P) (QS P k h D) i)) (nI i) x y mi) (fun j => nI (i ||| UF (gs P k h D) i j)) nI P (X9_spoons_9 ma n (nI (bset (stk D) P)) (nI (BB (bset (stk D) P) (QS P k h D) (i + 1))) (nI (i + 1)) mi) ?_ ?_ 0 500 (Nat.zero_le _) (by omega)
    · rw [UF, Nat.or_zero] at key; exact key
    · intro n2 j hj
      show X9_spoons_25 ma (X9_spoons_9 ma n) (n2 + 1) _ _ (nI i) (nI (i ||| UF (gs P k h D) i j)) (nI j) mi = X9_spoons_25 ma (X9_spoons_9 ma n) n2 _ _ (nI i) (nI (i ||| UF (gs P k h D) i (j + 1))) (nI (j + 1)) mi
      rw [X9_spoons_25, m.1, if_neg (nI_ge hj (by omega)), hasM i hi8 j (by omega), Option.bind_some, show X9_fedBy mi ma (nI j) = some (nI (gs P k h D j)) from fedByM m o hj, Option.bind_some, fa_or, or0, nI_1, UF]
      cases i.testBit j
      · rw [if_pos f0]; rfl
      · rw [if_neg t1, if_pos rfl, Nat.or_assoc]
    · intro n2
      show X9_spoons_25 ma (X9_spoons_9 ma n) (n2 + 1) _ _ (nI i) (nI (i ||| UF (gs P k h D) i P)) (nI P) mi = _
      have h109 : X9_spoons_109 ma (X9_spoons_9 ma n) (nI (bset (stk D) P)) (nI (BB (bset (stk D) P) (QS P k h D) i)) (nI i) mi = X9_spoons_9 ma n (nI (bset (stk D) P)) (nI (BB (bset (stk D) P) (QS P k h D) i)) (nI (i + 1)) mi := by
        rw [X9_spoons_109, if_pos rfl, nI_1]
      rw [X9_spoons_25, m.1, if_pos (nI_le (Nat.le_refl _) (by omega)), h109, bitsM i hi8, Option.bind_some, bitsM _ hb, Option.bind_some, Option.bind_some, Option.bind_some, if_neg one_ne, nI_1]
      by_cases q2 : i &&& (127 ^^^ bset (stk D) P) = 0
      · rw [if_pos ((sub_bit _ hst i hi8).mpr q2), ← UF_eq o hi8 q2]
        have hu := UF_lt (fs P k h D) i (fs_lt h7) 7
        by_cases q3 : UF (fs P k h D) i 7 = bset (stk D) P
        · rw [if_pos (by rw [q3])]
          by_cases q1 : pcn i < pcn (BB (bset (stk D) P) (QS P k h D) i)
          · rw [if_pos (nI_lt q1 (by omega)), BB_yes ⟨q2, q1, q3⟩]
          · rw [if_neg (nI_nlt (by omega) (by omega)), BB_no (fun z => q1 z.2.1)]
            by_cases q4 : pcn i = pcn (BB (bset (stk D) P) (QS P k h D) i)
            · have : BB (bset (stk D) P) (QS P k h D) i ≤ i := by
                rcases hb1 with z | z
                · rw [z] at q4 ⊢
                  have := pc_sub _ hst i hi8 q2 q4
                  omega
                · omega
              rw [if_pos (by rw [q4]), if_pos (nI_le this (by omega))]
            · rw [if_neg (fun z => q4 ((nI_eq (by omega) (by omega)).mp z))]
        · rw [if_neg (fun w => q3 ((nI_eq (by omega) (by omega)).mp w)), BB_no (Q := QS P k h D) (n := i) (fun z => q3 z.2.2)]
      · rw [if_neg (fun z => q2 ((sub_bit _ hst i hi8).mp z)), BB_no (fun z => q2 z.1)]
  · intro n
    show X9_spoons_9 ma (n + 1) (nI (bset (stk D) P)) (nI (BB (bset (stk D) P) (QS P k h D) (2 ^ P))) (nI (2 ^ P)) mi = _
    obtain ⟨-, hb⟩ := BB_in (Q := QS P k h D) hst (2 ^ P) (by omega)
    rw [X9_spoons_9, m.1, shl1 P h7, if_pos (nI_le (Nat.le_refl _) (by omega)), lt_, bitsM _ hb, Option.bind_some, efar]
theorem Rel_ga {ga' : Nat → Nat → Int32} (R : Rel gi gl ga vS vF sN sF mi ml ma) (e : ga' 4 = ga 4) : Rel gi gl ga' vS vF sN sF mi ml ma :=
  ⟨R.1, R.2.1, ⟨R.2.2.1.1, R.2.2.1.2.1, R.2.2.1.2.2.1, R.2.2.1.2.2.2.1, fun f hf => by rw [e]; exact R.2.2.1.2.2.2.2 f hf⟩, R.2.2.2⟩
theorem st_spoons (R : Rel gi gl ga vS vF sN sF mi ml ma) : ∃ r gi' ga' mi', X8_spoons vS vF gi ga = some (r, gi', ga') ∧ X9_spoons ma mi = some (r, mi') ∧ Rel gi' gl ga' vS vF sN sF mi' ml ma := by
  obtain ⟨P, k, t, l, h, a, d, D, c, m, o, -⟩ := R.2.2.2.view
  obtain ⟨-, hb⟩ := BB_in (Q := QS P k h D) (bset_lt7 (p := stk D) o.1) 128 (by omega)
  refine ⟨nI (pcn (BB (bset (stk D) P) (QS P k h D) 128)), va_up gi 1 (nI (BB (bset (stk D) P) (QS P k h D) 128)), GF P k h D ga 7, va_up mi 3 (nI (BB (bset (stk D) P) (QS P k h D) 128)), ?_, spoonsM m o, Rel_told (Rel_ga R (GF_4 7))⟩
  rw [X8_spoons, fewestC c o, bd2, Option.bind_some, lt_, up_at, bitc _ hb]; rfl
end
