theorem pcn_2' : ∀ s, s < 128 → ∀ x, x < 7 → ∀ y, y < 7 → (decide (x ≠ y) && (s.testBit x && s.testBit y)) = true → 2 ≤ pcn s := by decide +kernel
theorem pcn_2 (s : Nat) (hs : s < 128) (x : Nat) (hx : x < 7) (y : Nat) (hy : y < 7) (hn : x ≠ y) (b1 : s.testBit x = true) (b2 : s.testBit y = true) : 2 ≤ pcn s := pcn_2' s hs x hx y hy (by rw [b1, b2]; simp [hn])
theorem clr_bit : ∀ s, s < 128 → ∀ x, x < 7 → (nI s &&& (((1 : Int32) <<< (nI x &&& 31)) ^^^ (-1 : Int32))) = nI (bset (fun i => decide (i ≠ x) && s.testBit i) 7) := by decide +kernel
theorem bset_id : ∀ s, s < 128 → bset (fun i => s.testBit i) 7 = s := by decide +kernel
section
variable {P : Nat} {k t l h a : Nat → Int32} {d : Int32} {vS : Nat → Nat → Int32} {vF : Nat → Nat → Nat → Int32} {D : Nat → Nat} {mi : Nat → Int32} {ma : Nat → Nat → Int32}
variable {gi : Nat → Int32} {gl : Nat → Int64} {ga : Nat → Nat → Int32} {sN : Nat → Int32} {sF : Nat → Nat → Int32} {ml : Nat → Int64}
def FB (P : Nat) (k h : Nat → Int32) (D : Nat → Nat) (x : Nat) : Nat → Bool := fun i => stk D x && (decide (i = x) || (psg P k h D x i).isSome)
def FM (P : Nat) (k h : Nat → Int32) (D : Nat → Nat) (x : Nat) : Nat → Bool := fun i => decide (i ≠ x) && (psg P k h D x i).isSome
theorem psg_stk (o : OKV P k t h a D) {x y : Nat} (e : (psg P k h D x y).isSome = true) : D x ≠ 0 ∧ D y ≠ 0 := by
  unfold psg at e
  refine ⟨fun q => ?_, fun q => ?_⟩
  · rw [if_pos (wy_0 (by rw [ch_0 q, Nat.zero_and]))] at e; cases e
  · rw [if_pos (wy_0 (by rw [ch_0 q, Nat.and_zero]))] at e; cases e
theorem psg_pos (o : OKV P k t h a D) {x y q : Nat} (hx : x < P) (hy : y < P) (hn : x ≠ y) (e : psg P k h D x y = some q) : 1 ≤ q := by
  have h7 := o.1
  have hd := psg_stk (x := x) (y := y) o (by rw [e]; rfl)
  unfold psg at e
  split at e
  · cases e
  · rename_i w0
    split at e
    · have hwl := wy_lt o hx hy hd.1 hd.2
      have b1 := wy_end o hx hy hd.1 hd.2 w0
      rw [wy_symm o hx hy hd.1 hd.2] at w0
      have b2 := wy_end o hy hx hd.2 hd.1 w0
      rw [wy_symm o hy hx hd.2 hd.1] at b2
      have := pcn_2 _ hwl x (by omega) y (by omega) hn b2 b1
      injection e with e; omega
    · cases e
theorem fedByC (c : CV P k t l h a d vS vF) (o : OKV P k t h a D) {x : Nat} (hx : x < 7) : X0_fedBy vS vF (nI x) = some (nI (if x < P then bset (FB P k h D x) P else 0)) := by
  have h7 := o.1
  rw [X0_fedBy]
  by_cases hp : x < P
  · rw [if_pos hp]
    refine lu3 (X0_fedBy_4 vS vF) (fun _ => nI x) (fun i => nI (bset (FB P k h D x) i)) nI P _ ?_ ?_ 0 500 (by omega) (by omega)
    · intro n i hi
      rw [X0_fedBy_4, c.1, if_neg (nI_ge hi (by omega)), isStuckC c o hp, Option.bind_some, passingsC c o hp hi, Option.bind_some, nI_1, nI_bs _ (by omega)]
      by_cases hd : D x = 0
      · rw [if_pos hd, if_pos rfl]; simp [FB, stk, hd]
      · rw [if_neg hd, if_neg one_ne]
        by_cases e : x = i
        · rw [if_pos (by rw [e]), if_pos (by simp [FB, stk, hd, e.symm])]
        · rw [if_neg (fun w => e ((nI_eq (by omega) (by omega)).mp w))]
          cases hq : psg P k h D x i with
          | none => rw [psI, if_pos rfl, if_neg (by simp [FB, Ne.symm e, hq])]
          | some q =>
            have := psg_7 o hp hi hq
            rw [psI, if_neg (show ¬ nI q = -9 from fun w => by
              have : ∀ z, z ≤ 7 → ¬ nI z = -9 := by decide +kernel
              exact this q (by omega) w), if_pos (by simp [FB, stk, hd, hq])]
    · intro n
      rw [X0_fedBy_4, c.1, if_pos (nI_le (Nat.le_refl _) (by omega))]
  · rw [if_neg hp]
    refine lu3 (X0_fedBy_4 vS vF) (fun _ => nI x) (fun i => nI 0) nI P _ ?_ ?_ 0 500 (by omega) (by omega)
    · intro n i hi
      rw [X0_fedBy_4, c.1, if_neg (nI_ge hi (by omega)), isStuckC0 c o (fun w => hp (prs_nI h7 w (by omega))), Option.bind_some, nI_1, if_pos rfl]
    · intro n
      rw [X0_fedBy_4, c.1, if_pos (nI_le (Nat.le_refl _) (by omega))]
theorem fedByM (m : MV P k t l h a d mi ma) (o : OKV P k t h a D) {x : Nat} (hx : x < P) : X9_fedBy mi ma (nI x) = some (nI (bset (FM P k h D x) P)) := by
  have h7 := o.1
  rw [X9_fedBy]
  refine lu3 (X9_fedBy_4 mi ma) (fun _ => nI x) (fun i => nI (bset (FM P k h D x) i)) nI P _ ?_ ?_ 0 500 (by omega) (by omega)
  · intro n i hi
    rw [X9_fedBy_4, m.1, if_neg (nI_ge hi (by omega)), passingsM m o hx hi, Option.bind_some, nI_1, or0, nI_bs _ (by omega)]
    by_cases e : i = x
    · rw [if_pos (by rw [e]), if_neg (by simp [FM, e])]
    · rw [if_neg (fun w => e ((nI_eq (by omega) (by omega)).mp w))]
      cases hq : psg P k h D x i with
      | none => rw [psI, if_pos (by decide), if_neg (by simp [FM, hq])]
      | some q =>
        have := psg_7 o hx hi hq
        have := psg_pos o hx hi (Ne.symm e) hq
        rw [psI, if_neg (show ¬ nI q ≤ 0 from nI_ge (a := 0) (by omega) (by omega)), if_pos (by simp [FM, hq, e])]
  · intro n
    rw [X9_fedBy_4, m.1, if_pos (nI_le (Nat.le_refl _) (by omega))]
theorem fed_clr (o : OKV P k t h a D) {x : Nat} (hx : x < P) : bset (fun i => decide (i ≠ x) && (bset (FB P k h D x) P).testBit i) 7 = bset (FM P k h D x) P := by
  have h7 := o.1
  apply Nat.eq_of_testBit_eq
  intro i
  rw [bset_bit, bset_bit, bset_bit]
  by_cases hi : i < P
  · have : i < 7 := by omega
    by_cases e : i = x
    · simp [FM, e]
    · cases hq : (psg P k h D x i).isSome
      · simp [FM, FB, e, hq]
      · have := (psg_stk o hq).1
        simp [FM, FB, e, hq, hi, stk, this]; omega
  · simp [hi]
end
