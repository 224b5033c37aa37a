theorem pcn_or : ∀ s, s < 128 → ∀ x, x < 7 → s.testBit x = false → pcn (2 ^ x ||| s) = pcn s + 1 := by decide +kernel
theorem pcn_p2 : ∀ x, x < 7 → pcn (2 ^ x) = 1 := by decide +kernel
theorem pcn_1 : ∀ s, s < 128 → s ≠ 0 → 1 ≤ pcn s := by decide +kernel
theorem p2_nz (x : Nat) : 2 ^ x ≠ 0 := by have := Nat.two_pow_pos x; omega
section
variable {P : Nat} {k t l h a : Nat → Int32} {d : Int32} {vS : Nat → Nat → Int32} {vF : Nat → Nat → Nat → Int32} {D : Nat → Nat} {mi : Nat → Int32} {ma : Nat → Nat → Int32}
variable {gi : Nat → Int32} {gl : Nat → Int64} {ga : Nat → Nat → Int32} {sN : Nat → Int32} {sF : Nat → Nat → Int32} {ml : Nat → Int64}
theorem okp_iff {s y : Nat} : okp k P s y = true ↔ ∀ z, z < P → s.testBit z = true → z = y ∨ k z ≠ 1 := by
  rw [okp, allF_iff]
  constructor
  · intro q z hz hb
    have := q z (by omega) (by omega)
    simpa [hb] using this
  · intro q j _ hj
    cases hb : s.testBit j
    · simp
    · have := q j (by omega) hb
      simpa using this
theorem okp_or {z s y : Nat} (hz : z < P) : okp k P (2 ^ z ||| s) y = true ↔ (z = y ∨ k z ≠ 1) ∧ okp k P s y = true := by
  rw [okp_iff, okp_iff]
  constructor
  · intro q
    refine ⟨q z hz (by simp [Nat.testBit_or, Nat.testBit_two_pow]), fun w hw hb => q w hw (by rw [Nat.testBit_or, hb, Bool.or_true])⟩
  · intro q w hw hb
    rw [Nat.testBit_or, Nat.testBit_two_pow] at hb
    by_cases e : z = w
    · subst e; exact q.1
    · exact q.2 w hw (by simpa [e] using hb)
theorem okp_p2 {z y : Nat} (hz : z < P) : okp k P (2 ^ z) y = true ↔ (z = y ∨ k z ≠ 1) := by
  have := okp_or (k := k) (y := y) (s := 0) hz
  rw [Nat.or_zero] at this
  rw [this]
  exact ⟨fun q => q.1, fun q => ⟨q, okp_iff.mpr (fun w _ hb => by simp at hb)⟩⟩
def psJ (k : Nat → Int32) (P y c W : Nat) : Int32 := if W = 0 then -1 else if okp k P W y = true then nI (c + (pcn W - 1)) else -1
theorem psJ_or {z s y c : Nat} (hz : z < P) (hs : s < 128) (h7 : P ≤ 7) (hb : s.testBit z = false) : psJ k P y c (if s = 0 then 0 else 2 ^ z ||| s) = if z = y ∨ k z ≠ 1 then psJ k P y (c + 1) s else -1 := by
  unfold psJ
  by_cases s0 : s = 0
  · simp [s0]
  · have h1 : ¬ 2 ^ z ||| s = 0 := fun q => s0 (Nat.or_eq_zero_iff.mp q).2
    have := pcn_1 s hs s0
    rw [if_neg s0, if_neg h1, if_neg s0, pcn_or s hs z (by omega) hb, show c + (pcn s + 1 - 1) = c + 1 + (pcn s - 1) by omega]
    by_cases q : z = y ∨ k z ≠ 1
    · rw [if_pos q]
      by_cases q2 : okp k P s y = true
      · rw [if_pos q2, if_pos ((okp_or hz).mpr ⟨q, q2⟩)]
      · rw [if_neg q2, if_neg (fun w => q2 ((okp_or hz).mp w).2)]
    · rw [if_neg q, if_neg (fun w => q ((okp_or hz).mp w).1)]
theorem passM29 (m : MV P k t l h a d mi ma) (o : OKV P k t h a D) {y : Nat} (hy : y < P) (dy : D y ≠ 0) : ∀ s x b n c can, x < P → b < P → D x ≠ 0 → D b ≠ 0 → D x + D b ≤ s → s + 1 < n → (can = 0 ∨ can = 1) → ((ch h D x).testBit y = true → b = y) → (can = 1 → b = y ∨ x = b ∨ k b ≠ 1) → D b ≤ D y →
    X9_passings_29 ma n (nI y) (nI x) (nI b) (nI c) can = some (if can = 0 then -1 else psJ k P y c (wy P h D x b)) := by
  have h7 := o.1
  intro s
  induction s with
  | zero => intro x b n c can _ _ dx _ hs; omega
  | succ s ih =>
    intro x b n c can hx hb dx db hs hn hc i1 i2 i3
    obtain ⟨n, rfl⟩ : ∃ z, n = z + 1 := ⟨n - 1, by omega⟩
    have dx7 := o.d7 hx
    have db7 := o.d7 hb
    rw [X9_passings_29]
    by_cases e : x = b
    · subst e
      rw [if_pos rfl, X9_passings_145, if_pos rfl, if_neg (nI_ne9 (by omega)).2, X9_passings_181, if_pos rfl, wy_self o hx dx, if_neg one_ne, gd_nI (by omega) (by omega), cl_nI (by omega), (m.2.2 x hx).1, psJ, if_neg (p2_nz x), pcn_p2 x (by omega)]
      by_cases c0 : can = 0
      · rw [if_pos c0, if_pos c0]
      · rw [if_neg c0, if_neg c0]
        by_cases e1 : x = y
        · rw [if_pos (by rw [e1]), if_pos ((okp_p2 hx).mpr (Or.inl e1))]; rfl
        · rw [if_neg (fun w => e1 ((nI_eq (by omega) (by omega)).mp w))]
          by_cases e2 : k x = 1
          · rw [if_pos e2, if_neg (fun w => ((okp_p2 hx).mp w).elim e1 (fun z => z e2))]
          · rw [if_neg e2, if_pos ((okp_p2 hx).mpr (Or.inr e2))]; rfl
    · rw [if_neg (fun w => e ((nI_eq (by omega) (by omega)).mp w)), if_neg (nI_ne9 (by omega)).2, if_neg (nI_ne9 (by omega)).2, depthM m o hx, Option.bind_some, depthM m o hb, Option.bind_some]
      rcases Nat.lt_or_ge (D x) (D b) with q | q
      · rw [if_pos (nI_lt q (by omega)), gd_nI (by omega) (by omega), cl_nI (by omega), (m.2.2 b hb).2.2.2.1]
        rcases o.2.2.2.1 b hb with ⟨h1, h2⟩ | ⟨h1, h2⟩ | ⟨w, hw, h1, h2, h3⟩
        · omega
        · omega
        · have st := wy_step o hw hx dx (by omega) h1 h3 (Ne.symm e) (by omega)
          have hl := wy_lt o hw hx (by omega) dx
          rw [h1, nI_1, if_neg (nI_ne9 (by omega)).2, gd_nI (by omega) (by omega), cl_nI (by omega), (m.2.2 w hw).1, wy_symm o hx hb dx db, st.1, psJ_or hb hl h7 st.2, wy_symm o hw hx (by omega) dx]
          have ny : (ch h D x).testBit y = true → w = y := fun z => by have := (ch_bit o hx z).2.2.1; omega
          have hwy : w ≠ y := fun z => by subst z; omega
          have st0 := ih x w n (c + 1) 0 hx hw dx (by omega) (by omega) (by omega) (Or.inl rfl) ny (fun z => absurd z.symm one_ne) (by omega)
          rw [if_pos rfl] at st0
          rcases hc with rfl | rfl
          · rw [if_pos rfl, if_pos rfl, st0]
          · rw [if_neg one_ne, if_neg one_ne, if_pos (show b = y ∨ k b ≠ 1 from (i2 rfl).elim Or.inl (fun z => z.elim (fun z => absurd z e) Or.inr))]
            have st1 := fun hh => ih x w n (c + 1) 1 hx hw dx (by omega) (by omega) (by omega) (Or.inr rfl) ny hh (by omega)
            rw [if_neg one_ne] at st1
            by_cases e2 : w = x
            · rw [if_pos (by rw [e2]), st1 (fun _ => Or.inr (Or.inl e2.symm))]
            · rw [if_neg (fun z => e2 ((nI_eq (by omega) (by omega)).mp z))]
              by_cases e3 : k w = 1
              · rw [if_pos e3, st0]
                congr 1
                unfold psJ
                by_cases w0 : wy P h D x w = 0
                · rw [if_pos w0]
                · rw [if_neg w0, if_neg]
                  intro z
                  exact (okp_iff.mp z w hw (wy_end o hx hw dx (by omega) w0)).elim hwy (fun v => v e3)
              · rw [if_neg e3, st1 (fun _ => Or.inr (Or.inr e3))]
      · have nxy : x ≠ y := fun z => by
          have := i1 (by rw [← z]; exact ch_self o dx)
          exact e (z.trans this.symm)
        rw [if_neg (nI_nlt q (by omega)), gd_nI (by omega) (by omega), gd_nI (by omega) (by omega), gd_nI (by omega) (by omega), cl_nI (by omega), (m.2.2 x hx).2.2.2.1, (m.2.2 x hx).1, nI_1]
        rcases o.2.2.2.1 x hx with ⟨h1, h2⟩ | ⟨h1, h2⟩ | ⟨w, hw, h1, h2, h3⟩
        · omega
        · have en : ∀ z : Int32, X9_passings_29 ma n (nI y) 9 (nI b) (nI (c + 1)) z = some (-1) := by
            intro z
            obtain ⟨n, rfl⟩ : ∃ z, n = z + 1 := ⟨n - 1, by omega⟩
            rw [X9_passings_29, if_neg (Ne.symm (nI_ne9 (by omega)).2), if_pos rfl, X9_passings_145, if_neg (Ne.symm (nI_ne9 (by omega)).2), X9_passings_181, if_pos rfl]
            split <;> rfl
          have w0 : wy P h D x b = 0 := wy_0 (by rw [ch_9 h2, Nat.and_comm]; exact (fb_bit_nat _ x).mpr (ch_not o hb e q))
          rw [h1, en, en, w0, psJ, if_pos rfl]
          (repeat' split) <;> rfl
        · have st := wy_step o hw hb db (by omega) h1 h3 e q
          have hl := wy_lt o hw hb (by omega) db
          have ny : (ch h D w).testBit y = true → b = y := fun z => i1 (by rw [ch_s o hw h1 h3, Nat.testBit_or, z, Bool.or_true])
          have st0 := ih w b n (c + 1) 0 hw hb (by omega) db (by omega) (by omega) (Or.inl rfl) ny (fun z => absurd z.symm one_ne) i3
          rw [if_pos rfl] at st0
          rw [h1, st.1, psJ_or hx hl h7 st.2]
          rcases hc with rfl | rfl
          · rw [if_pos rfl, if_pos rfl, st0]
          · rw [if_neg one_ne, if_neg one_ne]
            by_cases e2 : k x = 1
            · rw [if_pos e2, if_neg (fun z => z.elim nxy (fun v => v e2)), st0]
            · rw [if_neg e2, if_pos (Or.inr e2)]
              have := ih w b n (c + 1) 1 hw hb (by omega) db (by omega) (by omega) (Or.inr rfl) ny (fun z => (i2 z).elim Or.inl (fun z => z.elim (fun z => absurd z e) (fun z => Or.inr (Or.inr z)))) i3
              rw [this, if_neg one_ne]
theorem passingsM (m : MV P k t l h a d mi ma) (o : OKV P k t h a D) {x y : Nat} (hx : x < P) (hy : y < P) : X9_passings ma (nI x) (nI y) = some (psI (-1) (psg P k h D x y)) := by
  have h7 := o.1
  rw [X9_passings, isStuckM m o hx, Option.bind_some, isStuckM m o hy, Option.bind_some, psg]
  by_cases dx : D x = 0
  · rw [if_pos dx, if_pos rfl, wy_0 (by rw [ch_0 dx, Nat.zero_and])]; rfl
  · rw [if_neg dx, if_neg one_ne]
    by_cases dy : D y = 0
    · rw [if_pos dy, if_pos rfl, wy_0 (by rw [ch_0 dy, Nat.and_zero])]; rfl
    · have := o.d7 hx
      have := o.d7 hy
      rw [if_neg dy, if_neg one_ne, show X9_passings_29 ma 500 (nI y) (nI x) (nI y) 0 1 = _ from passM29 m o hy dy (D x + D y) x y 500 0 1 hx hy dx dy (Nat.le_refl _) (by omega) (Or.inr rfl) (fun _ => rfl) (fun _ => Or.inl rfl) (Nat.le_refl _), if_neg one_ne, psJ]
      split
      · rfl
      · split
        · rw [Nat.zero_add]; rfl
        · rfl
theorem psg_7 (o : OKV P k t h a D) {x y q : Nat} (hx : x < P) (hy : y < P) (e : psg P k h D x y = some q) : q ≤ 7 := by
  unfold psg at e
  split at e
  · cases e
  · rename_i w0
    split at e
    · have hwl : wy P h D x y < 128 := by
        by_cases dx : D x = 0
        · rw [wy_0 (by rw [ch_0 dx, Nat.zero_and])]; omega
        · by_cases dy : D y = 0
          · rw [wy_0 (by rw [ch_0 dy, Nat.and_zero])]; omega
          · exact wy_lt o hx hy dx dy
      have := pcn7 _ hwl
      injection e with e; omega
    · cases e
theorem st_feed (R : RV vS vF mi ma) (x y : Int32) : ∃ r, X8_feed vS vF x y = some r ∧ X9_feed mi ma x y = some r := by
  obtain ⟨P, k, t, l, h, a, d, D, c, m, o, -⟩ := R.view
  have h7 := o.1
  rw [X8_feed, X9_feed]
  rcases one_cases c.1 m.1 o.1 x with ⟨z, hz, rfl, h1, h2⟩ | ⟨-, h1, h2⟩
  · rw [h1, h2, Option.bind_some, Option.bind_some, if_neg one_ne, if_neg one_ne]
    rcases one_cases c.1 m.1 o.1 y with ⟨w, hw, rfl, h1, h2⟩ | ⟨-, h1, h2⟩
    · rw [h1, h2, Option.bind_some, Option.bind_some, if_neg one_ne, if_neg one_ne]
      by_cases e : nI z = nI w
      · exact ⟨-1, by rw [if_pos e], by rw [if_pos e]⟩
      · rw [if_neg e, if_neg e, isStuckC c o hz, isStuckM m o hz, isStuckC c o hw, isStuckM m o hw, Option.bind_some, Option.bind_some, Option.bind_some, Option.bind_some, passingsC c o hz hw, passingsM m o hz hw, Option.bind_some, Option.bind_some]
        by_cases d1 : D z = 0
        · exact ⟨-4, by rw [if_pos d1, if_pos rfl], by rw [if_pos d1, if_pos rfl]⟩
        · rw [if_neg d1, if_neg one_ne, if_neg one_ne]
          by_cases d2 : D w = 0
          · exact ⟨-4, by rw [if_pos d2, if_pos rfl], by rw [if_pos d2, if_pos rfl]⟩
          · rw [if_neg d2, if_neg one_ne, if_neg one_ne]
            refine ⟨_, rfl, ?_⟩
            cases hp : psg P k h D z w with
            | none => rfl
            | some q =>
              have := psg_7 o hz hw hp
              show (if (0 : Int32) ≤ nI q then some (nI q) else some (-9)) = some (nI q)
              rw [if_pos (show (0 : Int32) ≤ nI q from nI_le (a := 0) (by omega) (by omega))]
    · exact ⟨-1, by rw [h1]; rfl, by rw [h2]; rfl⟩
  · exact ⟨-1, by rw [h1]; rfl, by rw [h2]; rfl⟩
end
