theorem allF_iff {p : Nat → Bool} : ∀ n i, (allF p n i = true ↔ ∀ j, i ≤ j → j < i + n → p j = true)
  | 0, i => by simp [allF]; intro j h1 h2; omega
  | n + 1, i => by
    rw [allF, Bool.and_eq_true, allF_iff n (i + 1)]
    constructor
    · intro q j h1 h2
      rcases Nat.lt_or_ge i j with w | w
      · exact q.2 j (by omega) (by omega)
      · have : j = i := by omega
        subst this; exact q.1
    · intro q; exact ⟨q i (by omega) (by omega), fun j h1 h2 => q j (by omega) (by omega)⟩
theorem cnt_not (p : Nat → Bool) : ∀ n, cnt p n + cnt (fun x => !p x) n = n
  | 0 => rfl
  | n + 1 => by
    have := cnt_not p n
    rw [cnt, cnt]
    cases p n <;> simp <;> omega
theorem cnt_rem (p : Nat → Bool) {x : Nat} (hp : p x = true) : ∀ n, x < n → cnt (fun y => decide (y ≠ x) && p y) n + 1 = cnt p n
  | 0, h => by omega
  | n + 1, h => by
    rw [cnt, cnt]
    rcases Nat.lt_or_ge x n with q | q
    · have := cnt_rem p hp n q
      have e : decide (n ≠ x) = true := by simp; omega
      rw [e, Bool.true_and]; omega
    · have : x = n := by omega
      subst this
      have e : cnt (fun y => decide (y ≠ x) && p y) x = cnt p x := cnt_cong (fun i hi => by
        have : i ≠ x := by omega
        simp [this])
      rw [e, hp]; simp
section
variable {P : Nat} {k t l h a : Nat → Int32} {d : Int32} {vS : Nat → Nat → Int32} {vF : Nat → Nat → Nat → Int32} {D : Nat → Nat} {mi : Nat → Int32} {ma : Nat → Nat → Int32}
variable {gi : Nat → Int32} {gl : Nat → Int64} {ga : Nat → Nat → Int32} {sN : Nat → Int32} {sF : Nat → Nat → Int32} {ml : Nat → Int64}
/-- who isn't in the set, on that one nobody of the set HANGS -/
def CLd (P : Nat) (h : Nat → Int32) (s : Nat) : Prop := ∀ x, x < P → s.testBit x = false → bset (HS h (nI x)) P &&& s = 0
theorem passesM (c : MV P k t l h a d mi ma) (o : OKV P k t h a D) {s w len : Nat} (hs : s < 128) (hw : w ≤ 7) (hl : len ≤ 7) (hc : CLd P h s) : ∃ r, X9_passes mi ma (nI s) (nI w) (nI len) = some r ∧ (r = 0 ∨ r = 1) ∧ (r = 1 ↔ PS P h D s w len) := by
  have h7 := o.1
  have key : ∀ q i n (b : Bool), i + q = P → q < n → X9_passes_35 mi ma n (nI s) (nI w) (if b then 1 else 0) (nI i) = some (if (b && allF (fun x => !(s.testBit x) || decide (pcn (bset (HS h (nI x)) P &&& s) ≤ w)) q i) then 1 else 0) := by
    intro q
    induction q with
    | zero =>
      intro i n b e1 e2
      obtain ⟨n, rfl⟩ : ∃ z, n = z + 1 := ⟨n - 1, by omega⟩
      rw [X9_passes_35, c.1, if_pos (nI_le (by omega) (by omega)), gd_t (by cases b <;> rfl), allF, Bool.and_true]
    | succ q ih =>
      intro i n b e1 e2
      obtain ⟨n, rfl⟩ : ∃ z, n = z + 1 := ⟨n - 1, by omega⟩
      have bi : bset (HS h (nI i)) P < 128 := bset_lt7 h7
      have p7 := pcn7 _ (and_lt (b := s) bi)
      rw [X9_passes_35, c.1, if_neg (nI_ge (by omega) (by omega)), hasM s hs i (by omega), Option.bind_some, hangSetM c o, Option.bind_some, fa_and, bitsM _ (and_lt bi), Option.bind_some, nI_1]
      have i0 := ih (i + 1) n false (by omega) (by omega)
      have i1 := ih (i + 1) n true (by omega) (by omega)
      simp only [Bool.false_eq_true, if_false, if_true, Bool.false_and, Bool.true_and] at i0 i1
      rw [i0, i1, allF]
      cases b
      · simp
      · cases hb : s.testBit i
        · simp
        · by_cases q1 : pcn (bset (HS h (nI i)) P &&& s) ≤ w
          · simp [q1, nI_nlt q1 (show w < 2 ^ 31 by omega)]
          · simp [q1, nI_lt (show w < pcn (bset (HS h (nI i)) P &&& s) by omega) (by omega)]
  have k0 := key P 0 500 false (by omega) (by omega)
  have k1 := key P 0 500 true (by omega) (by omega)
  simp only [Bool.false_eq_true, if_false, if_true, Bool.false_and, Bool.true_and] at k0 k1
  have b9 : bset (HS h 9) P < 128 := bset_lt7 h7
  have p9 := pcn7 _ (and_lt (b := s) b9)
  have e1 : nI (bset (fun x => decide (len < D x)) P) &&& nI s = 0 ↔ ∀ x, x < P → s.testBit x = true → D x ≤ len := by
    have hb : bset (fun x => decide (len < D x)) P < 128 := bset_lt7 h7
    rw [fa_and]
    have e : nI (bset (fun x => decide (len < D x)) P &&& s) = 0 ↔ bset (fun x => decide (len < D x)) P &&& s = 0 := by
      have := and_lt (b := s) hb
      exact nI_eq (b := 0) (by omega) (by omega)
    rw [e]
    constructor
    · intro q x hx hbx
      have := congrArg (fun z => z.testBit x) q
      simp only [Nat.testBit_and, bset_bit, hx, hbx, Nat.zero_testBit] at this
      simpa using this
    · intro q
      apply Nat.eq_of_testBit_eq
      intro x
      rw [Nat.testBit_and, bset_bit, Nat.zero_testBit]
      by_cases hx : x < P
      · cases hbx : s.testBit x
        · simp
        · have := q x hx hbx
          simp [this]
      · simp [hx]
  have e2 : allF (fun x => !(s.testBit x) || decide (pcn (bset (HS h (nI x)) P &&& s) ≤ w)) P 0 = true ↔ ∀ x, x < P → pcn (bset (HS h (nI x)) P &&& s) ≤ w := by
    rw [allF_iff]
    constructor
    · intro q x hx
      have := q x (by omega) (by omega)
      cases hb : s.testBit x
      · rw [hc x hx hb]
        exact Nat.le_trans (by decide) (Nat.zero_le w)
      · simpa [hb] using this
    · intro q x _ hx
      simp [q x (by omega)]
  rw [X9_passes, hangSetM c o, Option.bind_some, fa_and, bitsM _ (and_lt b9), Option.bind_some, tooDeepM c o hl, Option.bind_some]
  by_cases q1 : w < pcn (bset (HS h 9) P &&& s)
  · rw [if_pos (nI_lt q1 (by omega))]
    refine ⟨0, k0, Or.inl rfl, ?_⟩
    constructor
    · intro w; cases w
    · intro z; have := z.1; omega
  · rw [if_neg (nI_nlt (by omega) (by omega))]
    by_cases q2 : nI (bset (fun x => decide (len < D x)) P) &&& nI s = 0
    · rw [if_pos q2]
      refine ⟨_, k1, ?_, ?_⟩
      · split <;> simp
      · constructor
        · intro z
          split at z
          · rename_i z1; exact ⟨by omega, e2.mp z1, e1.mp q2⟩
          · cases z
        · intro z; rw [if_pos (e2.mpr z.2.1)]
    · rw [if_neg q2]
      refine ⟨0, k0, Or.inl rfl, ?_⟩
      constructor
      · intro w; cases w
      · intro z; exact absurd (e1.mpr z.2.2) q2
theorem stuck_closed (o : OKV P k t h a D) : CLd P h (bset (stk D) P) := by
  have h7 := o.1
  intro x hx hb
  rw [bset_bit] at hb
  have hd : D x = 0 := by simpa [hx, stk] using hb
  have : bset (HS h (nI x)) P = 0 := by
    rw [bset_0]
    intro z hz
    rcases o.2.2.2.1 z hz with ⟨h1, h2⟩ | ⟨h1, h2⟩ | ⟨y, hy, h1, h2, h3⟩
    · simp [HS, h1]; exact fun q => (nI_ne9 (by omega)).1 q.symm
    · simp [HS, h1]; exact fun q => (nI_ne9 (by omega)).2 q.symm
    · have : y ≠ x := fun q => by subst q; omega
      simp only [HS, h1, decide_eq_false_iff_not]
      intro q
      exact this ((nI_eq (by omega) (by omega)).mp q)
  rw [this, Nat.zero_and]
theorem chain0C (c : CV P k t l h a d vS vF) (o : OKV P k t h a D) : X7_depth vS vF 9 = some 0 := by
  rw [X7_depth, X7_chain, X7_chain_7, isStuckC0 c o (not9 o.1)]
  rfl
def RMb (P : Nat) (h : Nat → Int32) (D : Nat → Nat) (w len : Nat) : Nat → Bool := fun x => stk D x && (decide (pcn (bset (HS h (nI x)) P) < w) && decide (D x < len))
theorem st_room (R : RV vS vF mi ma) (x y : Int32) : ∃ r, X8_room vS vF x y = some r ∧ X9_room mi ma x y = some r := by
  obtain ⟨P, k, t, l, h, a, d, D, c, m, o, -⟩ := R.view
  have h7 := o.1
  rw [X8_room, X9_room, X9_areNumbers]
  rcases width_cases x with ⟨w, hw, rfl, h1, h2⟩ | ⟨h1, h2⟩
  · rcases width_cases y with ⟨len, hl, rfl, g1, g2⟩ | ⟨g1, g2⟩
    · rw [h1, Option.bind_some, if_neg one_ne, g1, Option.bind_some, if_neg one_ne, h2, Option.bind_some, if_neg one_ne, g2, Option.bind_some, if_neg one_ne, Option.bind_some, if_neg one_ne, X4_places, stuckSetC c o, stuckSetM m o, Option.bind_some, Option.bind_some]
      obtain ⟨r1, p1, p2, p3⟩ := passesC c o (bset_lt7 (p := stk D) h7) hw hl
      obtain ⟨r2, s1, s2, s3⟩ := passesM m o (bset_lt7 (p := stk D) h7) hw hl (stuck_closed o)
      have er : r1 = r2 := by
        rcases p2 with rfl | rfl <;> rcases s2 with rfl | rfl
        · rfl
        · exact absurd (p3.mpr (s3.mp rfl)) (by decide)
        · exact absurd (s3.mpr (p3.mp rfl)) (by decide)
        · rfl
      subst er
      rw [p1, s1, Option.bind_some, Option.bind_some]
      by_cases q0 : r1 = 0
      · rw [if_pos q0, if_pos q0]; exact ⟨0, rfl, rfl⟩
      · rw [if_neg q0, if_neg q0]
        have b9 : bset (HS h 9) P < 128 := bset_lt7 h7
        have p9 := pcn7 _ b9
        have roomC : ∀ z, z < P → D z ≠ 0 → X4_hasRoom vS vF (nI z) (nI w) (nI len) = some (if pcn (bset (HS h (nI z)) P) < w ∧ D z < len then 1 else 0) := by
          intro z hz _
          have bz : bset (HS h (nI z)) P < 128 := bset_lt7 h7
          have pz := pcn7 _ bz
          have dz := o.d7 hz
          rw [X4_hasRoom, hangersC c o (nI_ne9 (by omega)).1, Option.bind_some, bitc _ bz, Option.bind_some, depthC c o hz, Option.bind_some]
          by_cases u1 : w ≤ pcn (bset (HS h (nI z)) P)
          · rw [if_pos (nI_le u1 (by omega)), if_neg (by omega)]
          · rw [if_neg (nI_ge (by omega) (by omega))]
            by_cases u2 : len ≤ D z
            · rw [if_pos (nI_le u2 (by omega)), if_neg (by omega)]
            · rw [if_neg (nI_ge (by omega) (by omega)), if_pos (by omega)]
        have loopC : ∀ b : Nat, X4_places_35 vS vF 500 (nI w) (nI len) (nI b) 0 = some (nI (b + cnt (RMb P h D w len) P)) := by
          intro b
          have key := lu4 (X4_places_35 vS vF) (fun _ => nI w) (fun _ => nI len) (fun i => nI (b + cnt (RMb P h D w len) i)) nI P (some (nI (b + cnt (RMb P h D w len) P))) ?_ ?_ 0 500 (by omega) (by omega)
          · exact key
          · intro n i hi
            rw [X4_places_35, c.1, if_neg (nI_ge hi (by omega)), isStuckC c o hi, Option.bind_some, nI_1, nI_1, cnt]
            by_cases hd : D i = 0
            · simp [hd, RMb, stk]
            · rw [roomC i hi hd, Option.bind_some]
              by_cases u : pcn (bset (HS h (nI i)) P) < w ∧ D i < len
              · simp [hd, RMb, stk, u, Nat.add_assoc]
              · have : RMb P h D w len i = false := by
                  simp only [RMb, stk, Bool.and_eq_false_iff, decide_eq_false_iff_not]
                  rcases Decidable.not_and_iff_or_not.mp u with z | z
                  · exact Or.inr (Or.inl z)
                  · exact Or.inr (Or.inr z)
                simp only [hd, u, this, if_false, if_true, Bool.false_eq_true, Nat.add_zero, one_ne]
          · intro n
            rw [X4_places_35, c.1, if_pos (nI_le (Nat.le_refl _) (by omega))]
        have loopM : ∀ b : Nat, X9_room_51 mi ma 500 (nI w) (nI len) (nI b) 0 = some (nI (b + cnt (RMb P h D w len) P)) := by
          intro b
          have key := lu4 (X9_room_51 mi ma) (fun _ => nI w) (fun _ => nI len) (fun i => nI (b + cnt (RMb P h D w len) i)) nI P (some (nI (b + cnt (RMb P h D w len) P))) ?_ ?_ 0 500 (by omega) (by omega)
          · exact key
          · intro n i hi
            have bz : bset (HS h (nI i)) P < 128 := bset_lt7 h7
            have pz := pcn7 _ bz
            have dz := o.d7 hi
            rw [X9_room_51, m.1, if_neg (nI_ge hi (by omega)), isStuckM m o hi, Option.bind_some, nI_1, nI_1, cnt, hangSetM m o, Option.bind_some, bitsM _ bz, Option.bind_some, depthM m o hi, Option.bind_some, show nI (b + cnt (RMb P h D w len) i) + 0 = nI (b + cnt (RMb P h D w len) i) by simp]
            by_cases hd : D i = 0
            · simp [hd, RMb, stk]
            · by_cases u1 : w ≤ pcn (bset (HS h (nI i)) P)
              · have e : RMb P h D w len i = false := by
                  have : ¬ pcn (bset (HS h (nI i)) P) < w := by omega
                  simp [RMb, this]
                simp [hd, nI_le u1 (show pcn (bset (HS h (nI i)) P) < 2 ^ 31 by omega), e]
              · by_cases u2 : len ≤ D i
                · have e : RMb P h D w len i = false := by
                    have : ¬ D i < len := by omega
                    simp [RMb, this]
                  simp [hd, nI_ge (show pcn (bset (HS h (nI i)) P) < w by omega) (show w < 2 ^ 31 by omega), nI_le u2 (show D i < 2 ^ 31 by omega), e]
                · have e : RMb P h D w len i = true := by
                    have z1 : pcn (bset (HS h (nI i)) P) < w := by omega
                    have z2 : D i < len := by omega
                    simp [RMb, stk, z1, z2, hd]
                  simp [hd, nI_ge (show pcn (bset (HS h (nI i)) P) < w by omega) (show w < 2 ^ 31 by omega), nI_ge (show D i < len by omega) (show len < 2 ^ 31 by omega), e, Nat.add_assoc]
          · intro n
            rw [X9_room_51, m.1, if_pos (nI_le (Nat.le_refl _) (by omega))]
        rw [X4_hasRoom, hangersC c o nine_ne, Option.bind_some, bitc _ b9, Option.bind_some, chain0C c o, Option.bind_some, hangSetM m o, Option.bind_some, bitsM _ b9, Option.bind_some]
        rw [show X4_places_35 vS vF 500 (nI w) (nI len) 0 0 = _ from loopC 0, show X4_places_35 vS vF 500 (nI w) (nI len) 1 0 = _ from loopC 1, show X9_room_51 mi ma 500 (nI w) (nI len) 0 0 = _ from loopM 0, show X9_room_51 mi ma 500 (nI w) (nI len) 1 0 = _ from loopM 1]
        by_cases u1 : nI w ≤ nI (pcn (bset (HS h 9) P))
        · rw [if_pos u1, if_pos u1]; exact ⟨_, rfl, rfl⟩
        · rw [if_neg u1, if_neg u1]
          by_cases u2 : nI len ≤ 0
          · rw [if_pos u2, if_pos u2]; exact ⟨_, rfl, rfl⟩
          · rw [if_neg u2, if_neg u2]; exact ⟨_, rfl, rfl⟩
    · exact ⟨-1, by rw [h1, Option.bind_some, if_neg one_ne, g1]; rfl, by rw [h2, Option.bind_some, if_neg one_ne, g2]; rfl⟩
  · exact ⟨-1, by rw [h1]; rfl, by rw [h2]; rfl⟩
end
