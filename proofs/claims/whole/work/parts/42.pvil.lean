def mxD (D : Nat → Nat) : Nat → Nat
  | 0 => 0
  | n + 1 => if mxD D n < D n then D n else mxD D n
theorem mxD_le {D : Nat → Nat} {m : Nat} : ∀ n, (∀ x, x < n → D x ≤ m) → mxD D n ≤ m
  | 0, _ => Nat.zero_le _
  | n + 1, h => by
    have := mxD_le n (fun x hx => h x (by omega))
    have := h n (by omega)
    rw [mxD]; split <;> omega
theorem mxD_ge {D : Nat → Nat} : ∀ n x, x < n → D x ≤ mxD D n
  | 0, x, h => by omega
  | n + 1, x, h => by
    rw [mxD]
    rcases Nat.lt_or_ge x n with q | q
    · have := mxD_ge (D := D) n x q
      split <;> omega
    · have : x = n := by omega
      subst this
      split <;> omega
/-- IS of a KIND -/
def IA (z : Int32) (w : Nat) : Bool := decide (z = nI w) || (decide (w = 1) && decide (z = 5)) || (decide (w = 2) && decide (z = 4))
theorem isA_tab : ∀ z, z < 6 → ∀ w, w < 5 → X2_isA (nI z) (nI (w + 1)) = some (if IA (nI z) (w + 1) then 1 else 0) := by decide +kernel
def smN (f : Nat → Nat) : Nat → Nat
  | 0 => 0
  | n + 1 => smN f n + f n
/-- how many HANDS stick -/
def hnd (k : Nat → Int32) (D : Nat → Nat) (x : Nat) : Nat := if D x ≠ 0 then 0 else if IA (k x) 1 then 1 else 2
theorem smN_le {f : Nat → Nat} {c : Nat} : ∀ n, (∀ x, x < n → f x ≤ c) → smN f n ≤ n * c
  | 0, _ => by simp [smN]
  | n + 1, h => by
    have h1 := smN_le n (fun x hx => h x (by omega))
    have h2 := h n (by omega)
    rw [smN, Nat.succ_mul]; omega
section
variable {P : Nat} {k t l h a : Nat → Int32} {d : Int32} {vS : Nat → Nat → Int32} {vF : Nat → Nat → Nat → Int32} {D : Nat → Nat} {mi : Nat → Int32} {ma : Nat → Nat → Int32}
theorem OKV.mx7 (o : OKV P k t h a D) : ∀ n, n ≤ P → mxD D n ≤ 7 := fun n hn => mxD_le n (fun x hx => o.d7 (by omega))
theorem deepestC (c : CV P k t l h a d vS vF) (o : OKV P k t h a D) : X7_deepest vS vF = some (nI (mxD D P)) := by
  have h7 := o.1
  rw [X7_deepest]
  refine lu2 (X7_deepest_4 vS vF) (fun i => nI (mxD D i)) nI P _ ?_ ?_ 0 500 (by omega) (by omega)
  · intro n i hi
    have hm := o.mx7 i (by omega)
    have hd7 := o.d7 hi
    rw [X7_deepest_4, c.1, if_neg (nI_ge hi (by omega)), chainC c o hi, Option.bind_some, bitc _ (chn_lt o _ i hi rfl), Option.bind_some, chn_pc o _ i hi rfl, nI_1]
    congr 1
    rw [mxD]
    by_cases q : mxD D i < D i
    · rw [if_pos (nI_lt q (by omega)), if_pos q]
    · rw [if_neg (nI_nlt (by omega) (by omega)), if_neg q]
  · intro n
    rw [X7_deepest_4, c.1, if_pos (nI_le (Nat.le_refl _) (by omega))]
theorem deepestM (c : MV P k t l h a d mi ma) (o : OKV P k t h a D) : X9_deepest mi ma = some (nI (mxD D P)) := by
  have h7 := o.1
  rw [X9_deepest]
  refine lu2 (X9_deepest_4 mi ma) (fun i => nI (mxD D i)) nI P _ ?_ ?_ 0 500 (by omega) (by omega)
  · intro n i hi
    have hm := o.mx7 i (by omega)
    have hd7 := o.d7 hi
    rw [X9_deepest_4, c.1, if_neg (nI_ge hi (by omega)), depthM c o hi, Option.bind_some, nI_1]
    rw [mxD]
    by_cases q : mxD D i < D i
    · rw [if_neg (nI_ge q (by omega)), if_pos q]
    · rw [if_pos (nI_le (by omega) (by omega)), if_neg q]
  · intro n
    rw [X9_deepest_4, c.1, if_pos (nI_le (Nat.le_refl _) (by omega))]
theorem isOfC (c : CV P k t l h a d vS vF) (o : OKV P k t h a D) {x : Nat} (hx : x < P) {w : Nat} (hw : 1 ≤ w) (hw5 : w ≤ 5) : X7_isOf vS vF (nI x) (nI w) = some (if IA (k x) w then 1 else 0) := by
  have h7 := o.1
  obtain ⟨z, hz, e⟩ := o.2.1 x hx
  obtain ⟨w, rfl⟩ : ∃ q, w = q + 1 := ⟨w - 1, by omega⟩
  rw [X7_isOf, isPersonC1 c.1 h7 hx, Option.bind_some, if_neg (show ¬ (1 : Int32) = 0 by decide), gd_nI (by omega) (by omega), cl_nI (by omega), (c.2.2 x hx).1, e, isA_tab z hz w (by omega), Option.bind_some]
  cases IA (nI z) (w + 1) <;> rfl
theorem isOfM (c : MV P k t l h a d mi ma) (o : OKV P k t h a D) {x : Nat} (hx : x < P) {w : Nat} (hw : 1 ≤ w) (hw5 : w ≤ 5) : X9_isOf ma (nI x) (nI w) = some (if IA (k x) w then 1 else 0) := by
  have h7 := o.1
  rw [X9_isOf, gd_nI (by omega) (by omega), gd_nI (by omega) (by omega), gd_nI (by omega) (by omega), cl_nI (by omega), (c.2.2 x hx).1, iL 1, iL 2, iL 5, iL 4]
  simp only [nI_eq (show w < 2 ^ 31 by omega) (show 1 < 2 ^ 31 by omega), nI_eq (show w < 2 ^ 31 by omega) (show 2 < 2 ^ 31 by omega)]
  unfold IA
  by_cases e1 : k x = nI w
  · simp [e1]
  · by_cases e2 : w = 1
    · subst e2
      by_cases e3 : k x = nI 5
      · rw [e3]; rfl
      · have e4 : ¬ k x = 5 := e3
        simp [e1, e3, e4]
    · by_cases e5 : w = 2
      · subst e5
        by_cases e3 : k x = nI 4
        · rw [e3]; rfl
        · have e4 : ¬ k x = 4 := e3
          simp [e1, e3, e4]
      · simp [e1, e2, e5]
def SG (P : Nat) (k : Nat → Int32) (D : Nat → Nat) (x : Nat) : Nat := if k x = 4 then mxD D P else cnt (stk D) P
theorem IA4 {z : Int32} : IA z 4 = decide (z = 4) := by
  unfold IA
  simp
  rfl
theorem IA3 {z : Int32} : IA z 3 = decide (z = 3) := by
  unfold IA
  simp
  rfl
theorem SG7 (o : OKV P k t h a D) (x : Nat) : SG P k D x ≤ 7 := by
  unfold SG
  split
  · exact o.mx7 P (Nat.le_refl _)
  · exact Nat.le_trans (cnt_le _ _) o.1
theorem sightC (c : CV P k t l h a d vS vF) (o : OKV P k t h a D) {x : Nat} (hx : x < P) : X7_sight vS vF (nI x) = some (nI (SG P k D x)) := by
  rw [X7_sight, show X7_isOf vS vF (nI x) 4 = _ from isOfC c o hx (w := 4) (by omega) (by omega), Option.bind_some, stuckCountC c o, deepestC c o, IA4, SG]
  by_cases e : k x = 4
  · simp [e]
  · simp [e]
theorem sightM (c : MV P k t l h a d mi ma) (o : OKV P k t h a D) {x : Nat} (hx : x < P) : X9_sightOf mi ma (nI x) = some (nI (SG P k D x)) := by
  have h7 := o.1
  rw [X9_sightOf, gd_nI (by omega) (by omega), cl_nI (by omega), (c.2.2 x hx).1, stuckSetM c o, Option.bind_some, bitsStuckM o, deepestM c o, SG]
  by_cases e : k x = 4
  · simp [e]
  · simp [e]
def ML (P : Nat) (k t l : Nat → Int32) (d : Int32) (D : Nat → Nat) (x : Nat) : Bool := if k x = 3 then decide (cnt (stk D) P ≠ 0) else (decide (D x = 0) && (decide (¬ (d - l x) < 365) && (if IA (k x) 2 then decide (t x < nI (SG P k D x)) else decide (t x ≤ nI (SG P k D x)))))
end
