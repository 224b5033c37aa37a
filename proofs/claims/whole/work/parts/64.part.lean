theorem f0 : (if (false = true) then (1 : Int32) else 0) = 0 := rfl
theorem t1 : ¬ (if (true = true) then (1 : Int32) else 0) = 0 := by decide
theorem sub_bit : ∀ s, s < 128 → ∀ c, c < 128 → ((nI c &&& (nI s ^^^ (-1 : Int32))) = 0 ↔ c &&& (127 ^^^ s) = 0) := by decide +kernel
theorem pc_sub : ∀ s, s < 128 → ∀ c, c < 128 → c &&& (127 ^^^ s) = 0 → pcn c = pcn s → c = s := by decide +kernel
theorem sub_le : ∀ s, s < 128 → ∀ c, c < 128 → c &&& (127 ^^^ s) = 0 → c ≤ s := by decide +kernel
section
variable {P : Nat} {k t l h a : Nat → Int32} {d : Int32} {vS : Nat → Nat → Int32} {vF : Nat → Nat → Nat → Int32} {D : Nat → Nat} {mi : Nat → Int32} {ma : Nat → Nat → Int32}
variable {gi : Nat → Int32} {gl : Nat → Int64} {ga : Nat → Nat → Int32} {sN : Nat → Int32} {sF : Nat → Nat → Int32} {ml : Nat → Int64}
/-- who is left, if some are cut off -/
def LFb (h : Nat → Int32) (D : Nat → Nat) (c : Nat) : Nat → Bool := fun x => stk D x && decide (chn h (D x) x &&& c = 0)
theorem leftC (c : CV P k t l h a d vS vF) (o : OKV P k t h a D) {s : Nat} (hs : s < 128) : X4_left vS vF (nI s) = some (nI (bset (LFb h D s) P)) := by
  have h7 := o.1
  rw [X4_left]
  refine lu3 (X4_left_4 vS vF) (fun _ => nI s) (fun i => nI (bset (LFb h D s) i)) nI P _ ?_ ?_ 0 500 (by omega) (by omega)
  · intro n i hi
    have hch := chn_lt o _ i hi rfl
    rw [X4_left_4, c.1, if_neg (nI_ge hi (by omega)), isStuckC c o hi, Option.bind_some, chainC c o hi, Option.bind_some, fa_and, nI_1, nI_bs _ (by omega)]
    have e : nI (chn h (D i) i &&& s) = 0 ↔ chn h (D i) i &&& s = 0 := by
      have := and_lt (b := s) hch
      exact nI_eq (b := 0) (by omega) (by omega)
    by_cases hd : D i = 0
    · simp [hd, LFb, stk]
    · by_cases q : chn h (D i) i &&& s = 0
      · rw [if_neg hd, if_neg one_ne, if_pos (e.mpr q)]; simp [hd, LFb, stk, q]
      · rw [if_neg hd, if_neg one_ne, if_neg (fun z => q (e.mp z))]; simp [hd, LFb, stk, q]
  · intro n
    rw [X4_left_4, c.1, if_pos (nI_le (Nat.le_refl _) (by omega))]
theorem chn_and {h : Nat → Int32} {m x s : Nat} : chn h (m + 1) x &&& s = 0 ↔ s.testBit x = false ∧ chn h m (h x).toNatClampNeg &&& s = 0 := by
  rw [chn, Nat.and_or_distrib_right, Nat.or_eq_zero_iff]
  have : 2 ^ x &&& s = 0 ↔ s.testBit x = false := by rw [Nat.and_comm]; exact fb_bit_nat s x
  rw [this]
theorem leftM (c : MV P k t l h a d mi ma) (o : OKV P k t h a D) {s : Nat} (hs : s < 128) : X9_leftBy mi ma (nI s) = some (nI (bset (LFb h D s) P)) := by
  have h7 := o.1
  have walk : ∀ (k4 : Int32 → Int32 → Int32 → Option Int32) (v2 v3 : Int32) (q y n : Nat), y < P → D y = q + 1 → q + 1 < n → X9_leftBy_15 mi ma k4 n (nI s) v2 v3 (nI y) = if chn h (q + 1) y &&& s = 0 then k4 (nI s) (v2 ||| ((1 : Int32) <<< (v3 &&& 31))) (v3 + 1) else k4 (nI s) (v2 ||| 0) (v3 + 1) := by
    intro k4 v2 v3 q
    induction q with
    | zero =>
      intro y n hy hd hn
      obtain ⟨n, rfl⟩ : ∃ z, n = z + 2 := ⟨n - 2, by omega⟩
      rw [X9_leftBy_15, if_neg (nI_ne9 (by omega)).2, if_neg (nI_ne9 (by omega)).1, hasM s hs y (by omega), Option.bind_some, gd_nI (by omega) (by omega), cl_nI (by omega), (c.2.2 y hy).2.2.2.1]
      rcases o.2.2.2.1 y hy with ⟨h1, h2⟩ | ⟨h1, h2⟩ | ⟨w, hw, h1, h2, h3⟩
      · omega
      · rw [h1, X9_leftBy_15, if_pos rfl, X9_leftBy_50, if_pos rfl, X9_leftBy_50, if_neg (nI_ne9 (by omega)).2]
        cases hb : s.testBit y
        · rw [if_pos f0, if_pos (chn_and.mpr ⟨hb, by rw [chn, Nat.zero_and]⟩)]
        · rw [if_neg t1, if_neg (fun w => by rw [(chn_and.mp w).1] at hb; cases hb)]
      · omega
    | succ q ih =>
      intro y n hy hd hn
      obtain ⟨n, rfl⟩ : ∃ z, n = z + 1 := ⟨n - 1, by omega⟩
      rw [X9_leftBy_15, if_neg (nI_ne9 (by omega)).2, if_neg (nI_ne9 (by omega)).1, hasM s hs y (by omega), Option.bind_some, gd_nI (by omega) (by omega), cl_nI (by omega), (c.2.2 y hy).2.2.2.1]
      rcases o.2.2.2.1 y hy with ⟨h1, h2⟩ | ⟨h1, h2⟩ | ⟨w, hw, h1, h2, h3⟩
      · omega
      · omega
      · rw [h1, ih w n hw (by omega) (by omega), X9_leftBy_50, if_neg (nI_ne9 (by omega)).2]
        have e : chn h (q + 1 + 1) y &&& s = 0 ↔ s.testBit y = false ∧ chn h (q + 1) w &&& s = 0 := by
          rw [chn_and, h1, cl_nI (by omega)]
        cases hb : s.testBit y
        · rw [if_pos f0]
          by_cases z : chn h (q + 1) w &&& s = 0
          · rw [if_pos z, if_pos (e.mpr ⟨hb, z⟩)]
          · rw [if_neg z, if_neg (fun u => z (e.mp u).2)]
        · rw [if_neg t1, if_neg (fun u => by rw [(e.mp u).1] at hb; cases hb)]
  have walk0 : ∀ (k4 : Int32 → Int32 → Int32 → Option Int32) (v2 v3 : Int32) (y n : Nat), y < P → D y = 0 → 1 < n → X9_leftBy_15 mi ma k4 n (nI s) v2 v3 (nI y) = k4 (nI s) (v2 ||| 0) (v3 + 1) := by
    intro k4 v2 v3 y n hy hd hn
    obtain ⟨n, rfl⟩ : ∃ z, n = z + 2 := ⟨n - 2, by omega⟩
    rw [X9_leftBy_15, if_neg (nI_ne9 (by omega)).2, if_neg (nI_ne9 (by omega)).1, hasM s hs y (by omega), Option.bind_some, gd_nI (by omega) (by omega), cl_nI (by omega), (c.2.2 y hy).2.2.2.1, (o.stuck hy).mpr hd, X9_leftBy_15, if_neg (show ¬ (-9 : Int32) = 9 by decide), if_pos (show (-9 : Int32) = -9 from rfl), X9_leftBy_50, if_neg (show ¬ (-9 : Int32) = 9 by decide), X9_leftBy_50, if_neg (nI_ne9 (by omega)).2]
    split <;> rfl
  rw [X9_leftBy]
  refine lu3 (X9_leftBy_4 mi ma) (fun _ => nI s) (fun i => nI (bset (LFb h D s) i)) nI P _ ?_ ?_ 0 500 (by omega) (by omega)
  · intro n i hi
    have hd7 := o.d7 hi
    rw [X9_leftBy_4, c.1, if_neg (nI_ge hi (by omega))]
    by_cases hd : D i = 0
    · rw [walk0 _ _ _ i 500 hi hd (by omega), nI_1, or0, nI_bs _ (by omega)]
      simp [LFb, stk, hd]
    · obtain ⟨q, hq⟩ : ∃ q, D i = q + 1 := ⟨D i - 1, by omega⟩
      rw [walk _ _ _ q i 500 hi hq (by omega), nI_1, or0, nI_bs _ (by omega), ← hq]
      by_cases z : chn h (D i) i &&& s = 0
      · rw [if_pos z]; simp [LFb, stk, hd, z]
      · rw [if_neg z]; simp [LFb, stk, hd, z]
  · intro n
    rw [X9_leftBy_4, c.1, if_pos (nI_le (Nat.le_refl _) (by omega))]
theorem left_closed (o : OKV P k t h a D) (s : Nat) : CLd P h (bset (LFb h D s) P) := by
  have h7 := o.1
  intro x hx hb
  apply Nat.eq_of_testBit_eq
  intro z
  rw [Nat.testBit_and, bset_bit, bset_bit, Nat.zero_testBit]
  rw [bset_bit] at hb
  by_cases hz : z < P
  · by_cases e : h z = nI x
    · rcases o.2.2.2.1 z hz with ⟨h1, h2⟩ | ⟨h1, h2⟩ | ⟨y, hy, h1, h2, h3⟩
      · rw [h1] at e; exact absurd e.symm (nI_ne9 (by omega)).1
      · rw [h1] at e; exact absurd e.symm (nI_ne9 (by omega)).2
      · have exy : y = x := (nI_eq (by omega) (by omega)).mp (h1.symm.trans e)
        subst exy
        have hl : LFb h D s z = false := by
          have hb' : LFb h D s y = false := by simpa [hx] using hb
          have hd : D y ≠ 0 := by omega
          have hn : ¬ chn h (D y) y &&& s = 0 := by simpa [LFb, stk, hd] using hb'
          have hn2 : ¬ chn h (D z) z &&& s = 0 := by
            rw [h3, chn_and, h1, cl_nI (by omega)]
            exact fun w => hn w.2
          simp [LFb, hn2]
        simp [hl]
    · simp [HS, e]
  · simp [hz]
/-- the best cut among those below a number -/
noncomputable def BC (P : Nat) (h : Nat → Int32) (D : Nat → Nat) (w len : Nat) : Nat → Nat
  | 0 => bset (stk D) P
  | n + 1 => have := Classical.propDecidable (n &&& (127 ^^^ bset (stk D) P) = 0 ∧ pcn n < pcn (BC P h D w len n) ∧ PS P h D (bset (LFb h D n) P) w len); if n &&& (127 ^^^ bset (stk D) P) = 0 ∧ pcn n < pcn (BC P h D w len n) ∧ PS P h D (bset (LFb h D n) P) w len then n else BC P h D w len n
theorem BC_yes {w len n : Nat} (q : n &&& (127 ^^^ bset (stk D) P) = 0 ∧ pcn n < pcn (BC P h D w len n) ∧ PS P h D (bset (LFb h D n) P) w len) : BC P h D w len (n + 1) = n := by
  rw [BC]; exact if_pos q
theorem BC_no {w len n : Nat} (q : ¬ (n &&& (127 ^^^ bset (stk D) P) = 0 ∧ pcn n < pcn (BC P h D w len n) ∧ PS P h D (bset (LFb h D n) P) w len)) : BC P h D w len (n + 1) = BC P h D w len n := by
  rw [BC]; exact if_neg q
theorem BC_in (hP : P ≤ 7) (w len : Nat) : ∀ n, n ≤ 128 → (BC P h D w len n = bset (stk D) P ∨ BC P h D w len n < n) ∧ BC P h D w len n < 128 := by
  intro n
  induction n with
  | zero => intro _; exact ⟨Or.inl rfl, bset_lt7 hP⟩
  | succ n ih =>
    intro hn
    obtain ⟨i1, i2⟩ := ih (by omega)
    by_cases q : n &&& (127 ^^^ bset (stk D) P) = 0 ∧ pcn n < pcn (BC P h D w len n) ∧ PS P h D (bset (LFb h D n) P) w len
    · rw [BC_yes q]; exact ⟨Or.inr (by omega), by omega⟩
    · rw [BC_no q]
      exact ⟨i1.elim Or.inl (fun z => Or.inr (by omega)), i2⟩
theorem cutsC (c : CV P k t l h a d vS vF) (o : OKV P k t h a D) {w len : Nat} (hw : w ≤ 7) (hl : len ≤ 7) : X4_cuts vS vF (nI w) (nI len) = some (nI (BC P h D w len 128)) := by
  have h7 := o.1
  have hst : bset (stk D) P < 128 := bset_lt7 h7
  rw [X4_cuts, stuckSetC c o, Option.bind_some]
  refine lu5 (X4_cuts_11 vS vF) (fun _ => nI w) (fun _ => nI len) (fun _ => nI (bset (stk D) P)) (fun i => nI (BC P h D w len i)) nI 128 _ ?_ ?_ 0 500 (by omega) (by omega)
  · intro n i hi
    obtain ⟨-, hb⟩ := BC_in (h := h) (D := D) h7 w len i (by omega)
    have p1 := pcn7 i hi
    have p2 := pcn7 _ hb
    obtain ⟨r, r1, r2, r3⟩ := passesC c o (bset_lt7 (p := LFb h D i) h7) hw hl
    rw [X4_cuts_11, show (128 : Int32) = nI 128 from rfl, if_neg (nI_ge hi (by omega)), bitc i hi, Option.bind_some, bitc _ hb, Option.bind_some, X4_cuts_37, X4_cuts_37, if_pos rfl, if_neg one_ne, leftC c o hi, Option.bind_some, r1, Option.bind_some, nI_1]
    by_cases q1 : pcn i < pcn (BC P h D w len i)
    · rw [if_neg (nI_ge q1 (by omega))]
      by_cases q2 : i &&& (127 ^^^ bset (stk D) P) = 0
      · rw [if_pos ((sub_bit _ hst i hi).mpr q2)]
        by_cases q3 : PS P h D (bset (LFb h D i) P) w len
        · rw [BC_yes ⟨q2, q1, q3⟩, r3.mpr q3, if_neg one_ne]
        · have : r = 0 := r2.elim id (fun z => absurd (r3.mp z) q3)
          rw [BC_no (fun z => q3 z.2.2), this, if_pos rfl]
      · rw [if_neg (fun z => q2 ((sub_bit _ hst i hi).mp z)), BC_no (fun z => q2 z.1)]
    · rw [if_pos (nI_le (by omega) (by omega)), BC_no (fun z => q1 z.2.1)]
  · intro n
    rw [X4_cuts_11, show (128 : Int32) = nI 128 from rfl, if_pos (nI_le (Nat.le_refl _) (by omega))]
theorem shl1 : ∀ n, n ≤ 7 → (1 : Int32) <<< (nI n &&& 31) = nI (2 ^ n) := by decide +kernel
theorem p2le : ∀ n, n ≤ 7 → 2 ^ n ≤ 128 := by decide
theorem BC_far (hP : P ≤ 7) (w len : Nat) : ∀ n, 2 ^ P + n ≤ 128 → BC P h D w len (2 ^ P + n) = BC P h D w len (2 ^ P) := by
  intro n
  induction n with
  | zero => intro _; rfl
  | succ n ih =>
    intro hn
    rw [← Nat.add_assoc, BC_no, ih (by omega)]
    intro z
    have := sub_le _ (bset_lt7 (p := stk D) hP) (2 ^ P + n) (by omega) z.1
    have := bset_lt (stk D) P
    omega
theorem partLoopM (c : MV P k t l h a d mi ma) (o : OKV P k t h a D) {w len : Nat} (hw : w ≤ 7) (hl : len ≤ 7) : X9_part_21 ma 500 (nI w) (nI len) (nI (bset (stk D) P)) (nI (bset (stk D) P)) 0 mi = some (nI (pcn (BC P h D w len 128)), va_up mi 3 (nI (BC P h D w len 128))) := by
  have h7 := o.1
  have hst : bset (stk D) P < 128 := bset_lt7 h7
  have h2P := p2le P h7
  have efar := BC_far (h := h) (D := D) h7 w len (128 - 2 ^ P) (by omega)
  rw [show 2 ^ P + (128 - 2 ^ P) = 128 by omega] at efar
  refine lu2 (fun n (x y : Int32) => X9_part_21 ma n (nI w) (nI len) (nI (bset (stk D) P)) x y mi) (fun i => nI (BC P h D w len i)) nI (2 ^ P) _ ?_ ?_ 0 500 (Nat.zero_le _) (by omega)
  · intro n i hi
    show X9_part_21 ma (n + 1) (nI w) (nI len) (nI (bset (stk D) P)) (nI (BC P h D w len i)) (nI i) mi = X9_part_21 ma n (nI w) (nI len) (nI (bset (stk D) P)) (nI (BC P h D w len (i + 1))) (nI (i + 1)) mi
    obtain ⟨hb1, hb⟩ := BC_in (h := h) (D := D) h7 w len i (by omega)
    have p1 := pcn7 i (by omega)
    have p2 := pcn7 _ hb
    obtain ⟨r, r1, r2, r3⟩ := passesM c o (bset_lt7 (p := LFb h D i) h7) hw hl (left_closed o i)
    have h79 : ∀ z : Int32, X9_part_79 ma (X9_part_21 ma n) (nI w) (nI len) (nI (bset (stk D) P)) (nI (BC P h D w len i)) (nI i) z mi = X9_part_21 ma n (nI w) (nI len) (nI (bset (stk D) P)) (if z = 0 ∨ r = 0 then nI (BC P h D w len i) else nI i) (nI (i + 1)) mi := by
      intro z
      rw [X9_part_79, leftM c o (by omega), Option.bind_some, r1, Option.bind_some, nI_1]
      by_cases z0 : z = 0
      · rw [if_pos z0, if_pos (Or.inl z0)]
      · rw [if_neg z0]
        by_cases r0 : r = 0
        · rw [if_pos r0, if_pos (Or.inr r0)]
        · rw [if_neg r0, if_neg (fun q => q.elim z0 r0)]
    rw [X9_part_21, c.1, shl1 P h7, if_neg (nI_ge hi (by omega)), bitsM i (by omega), Option.bind_some, bitsM _ hb, Option.bind_some, Option.bind_some, Option.bind_some, h79, h79, if_pos (Or.inl rfl)]
    by_cases q2 : i &&& (127 ^^^ bset (stk D) P) = 0
    · rw [if_pos ((sub_bit _ hst i (by omega)).mpr q2)]
      by_cases q1 : pcn i < pcn (BC P h D w len i)
      · rw [if_pos (nI_lt q1 (by omega))]
        by_cases q3 : PS P h D (bset (LFb h D i) P) w len
        · rw [BC_yes ⟨q2, q1, q3⟩, if_neg]
          rw [r3.mpr q3]; decide
        · have : r = 0 := r2.elim id (fun z => absurd (r3.mp z) q3)
          rw [BC_no (fun z => q3 z.2.2), if_pos (Or.inr this)]
      · rw [if_neg (nI_nlt (by omega) (by omega)), BC_no (fun z => q1 z.2.1)]
        by_cases q4 : pcn i = pcn (BC P h D w len i)
        · have : BC P h D w len i ≤ i := by
            rcases hb1 with z | z
            · rw [z] at q4 ⊢
              have := pc_sub _ hst i (by omega) q2 q4
              omega
            · omega
          rw [if_pos (by rw [q4]), if_pos (nI_le this (by omega))]
        · rw [if_neg (fun z => q4 ((nI_eq (by omega) (by omega)).mp z))]
    · rw [if_neg (fun z => q2 ((sub_bit _ hst i (by omega)).mp z)), BC_no (fun z => q2 z.1)]
  · intro n
    show X9_part_21 ma (n + 1) (nI w) (nI len) (nI (bset (stk D) P)) (nI (BC P h D w len (2 ^ P))) (nI (2 ^ P)) mi = _
    obtain ⟨-, hb⟩ := BC_in (h := h) (D := D) h7 w len (2 ^ P) (by omega)
    rw [X9_part_21, c.1, shl1 P h7, if_pos (nI_le (Nat.le_refl _) (by omega)), lt_, bitsM _ hb, Option.bind_some, efar]
theorem st_part (R : Rel gi gl ga vS vF sN sF mi ml ma) (x y : Int32) : ∃ r gi' mi', X8_part vS vF x y gi = some (r, gi') ∧ X9_part ma x y mi = some (r, mi') ∧ Rel gi' gl ga vS vF sN sF mi' ml ma := by
  obtain ⟨P, k, t, l, h, a, d, D, c, m, o, -⟩ := R.2.2.2.view
  rw [X8_part, X9_part, X9_areNumbers]
  rcases width_cases x with ⟨w, hw, rfl, h1, h2⟩ | ⟨h1, h2⟩
  · rcases width_cases y with ⟨len, hl, rfl, g1, g2⟩ | ⟨g1, g2⟩
    · obtain ⟨-, hb⟩ := BC_in (h := h) (D := D) o.1 w len 128 (by omega)
      refine ⟨nI (pcn (BC P h D w len 128)), va_up gi 1 (nI (BC P h D w len 128)), va_up mi 3 (nI (BC P h D w len 128)), ?_, ?_, Rel_told R⟩
      · rw [h1, Option.bind_some, if_neg one_ne, g1, Option.bind_some, if_neg one_ne, cutsC c o hw hl, Option.bind_some, lt_, up_at, bitc _ hb]; rfl
      · rw [h2, Option.bind_some, if_neg one_ne, g2, Option.bind_some, if_neg one_ne, Option.bind_some, if_neg one_ne, stuckSetM m o, Option.bind_some, partLoopM m o hw hl]
    · exact ⟨-1, gi, mi, by rw [h1, Option.bind_some, if_neg one_ne, g1]; rfl, by rw [h2, Option.bind_some, if_neg one_ne, g2]; rfl, R⟩
  · exact ⟨-1, gi, mi, by rw [h1]; rfl, by rw [h2]; rfl, R⟩
end
