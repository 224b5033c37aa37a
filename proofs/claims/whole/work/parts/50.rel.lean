/-! what the class's state and the reference's have to do with each other -/
def sz (N : Nat) (v : Int32) : Prop := v = -1 ∨ ∃ m, m ≤ N ∧ v = nI m
def RR (sN : Nat → Int32) (sF : Nat → Nat → Int32) (ma : Nat → Nat → Int32) : Prop := ∀ r, r < 6 → sN r = ma 10 r ∧ sz 40 (sN r) ∧ ∀ i, i < 40 → sF r i = ma 11 (40 * r + i)
def RT (sN : Nat → Int32) (sF : Nat → Nat → Int32) (ma : Nat → Nat → Int32) : Prop := ∀ r, r < 4 → sN (6 + r) = ma 12 r ∧ sz 60 (sN (6 + r)) ∧ ∀ i, i < 60 → sF (6 + r) i = ma 13 (60 * r + i) ∧ -128 ≤ (sF (6 + r) i).toInt ∧ (sF (6 + r) i).toInt ≤ 127
def RS (gi : Nat → Int32) (gl : Nat → Int64) (ga : Nat → Nat → Int32) (mi : Nat → Int32) (ml : Nat → Int64) (ma : Nat → Nat → Int32) : Prop := gi 0 = mi 4 ∧ gi 1 = mi 3 ∧ gl 0 = ml 0 ∧ gl 1 = ml 1 ∧ ∀ f, f < 6 → ga 4 f = ma 9 f
/-- the DEEDS of a village of the class, and what it was ahead of each: hH on whom one HANGS, hA the HAND, hL the last laughing, hD the DAY, by DEED -/
def VW (P n : Nat) (k t : Nat → Int32) (hH hA hL : Nat → Nat → Int32) (hD : Nat → Int32) (S : Nat → Int32) (F : Nat → Nat → Int32) : Prop :=
  S 0 = nI P ∧ S 1 = hD n ∧ S 2 = nI n ∧ (∀ x, x < P → F 0 x = k x ∧ F 1 x = t x ∧ F 3 x = hL n x ∧ F 4 x = hH n x ∧ F 5 x = hA n x) ∧
  (hD 0 = 0 ∧ ∀ x, x < P → hL 0 x = F 2 x ∧ hH 0 x = -9 ∧ hA 0 x = -9) ∧
  ∀ d, d < n → (F 6 d = 2 ∧ hD (d + 1) = hD d + F 7 d ∧ ∀ x, x < P → hL (d + 1) x = hL d x ∧ hH (d + 1) x = hH d x ∧ hA (d + 1) x = hA d x) ∨
    (∃ w, w < P ∧ F 7 d = nI w ∧ F 6 d = 1 ∧ hD (d + 1) = hD d ∧ ∀ x, x < P → hL (d + 1) x = (if x = w then hD d else hL d x) ∧ hH (d + 1) x = -9 ∧ hA (d + 1) x = -9) ∨
    (∃ w, w < P ∧ F 7 d = nI w ∧ F 6 d = 0 ∧ hD (d + 1) = hD d ∧ ∀ x, x < P → hL (d + 1) x = hL d x ∧ hH (d + 1) x = (if x = w then F 9 d else hH d x) ∧ hA (d + 1) x = (if x = w then F 8 d else hA d x))
/-- the reference's -/
def MW (P n : Nat) (t : Nat → Int32) (hH hA hL : Nat → Nat → Int32) (hD : Nat → Int32) (mt mh mg ml : Nat → Int32) (md mn : Int32) (pH pA pL pD : Nat → Int32) : Prop :=
  md = hD n ∧ mn = nI n ∧ (∀ x, x < P → mt x = t x ∧ ml x = hL n x ∧ mh x = hH n x ∧ mg x = hA n x) ∧
  ∀ d, d < n → pD d = hD d ∧ ∀ x, x < P → pH (7 * d + x) = hH d x ∧ pA (7 * d + x) = hA d x ∧ pL (7 * d + x) = hL d x
def VO (P n : Nat) (k t : Nat → Int32) (hH hA : Nat → Nat → Int32) (DD : Nat → Nat → Nat) : Prop := n ≤ 60 ∧ ∀ d, d ≤ n → OKV P k t (hH d) (hA d) (DD d)
def RM (P : Nat) (k : Nat → Int32) (vS : Nat → Nat → Int32) (vF : Nat → Nat → Nat → Int32) (mi : Nat → Int32) (ma : Nat → Nat → Int32) : Prop :=
  ∃ (n : Nat) (t : Nat → Int32) (hH hA hL : Nat → Nat → Int32) (hD : Nat → Int32) (DD : Nat → Nat → Nat), VO P n k t hH hA DD ∧ VW P n k t hH hA hL hD (vS 0) (vF 0) ∧ MW P n t hH hA hL hD (ma 1) (ma 2) (ma 3) (ma 4) (mi 1) (mi 2) (ma 5) (ma 6) (ma 7) (ma 8)
def RK (P : Nat) (k : Nat → Int32) (vS : Nat → Nat → Int32) (vF : Nat → Nat → Nat → Int32) (ma : Nat → Nat → Int32) (q : Nat) : Prop :=
  (vS (1 + q) 0 = 0 ∧ ma 14 q = -1) ∨ (P ≠ 0 ∧ ∃ (n : Nat) (t : Nat → Int32) (hH hA hL : Nat → Nat → Int32) (hD : Nat → Int32) (DD : Nat → Nat → Nat), VO P n k t hH hA DD ∧ VW P n k t hH hA hL hD (vS (1 + q)) (vF (1 + q)) ∧
    MW P n t hH hA hL hD (fun x => ma 16 (7 * q + x)) (fun x => ma 17 (7 * q + x)) (fun x => ma 18 (7 * q + x)) (fun x => ma 19 (7 * q + x)) (ma 15 q) (ma 14 q) (fun x => ma 20 (420 * q + x)) (fun x => ma 21 (420 * q + x)) (fun x => ma 22 (420 * q + x)) (fun x => ma 23 (60 * q + x)))
def RV (vS : Nat → Nat → Int32) (vF : Nat → Nat → Nat → Int32) (mi : Nat → Int32) (ma : Nat → Nat → Int32) : Prop :=
  ∃ (P : Nat) (k : Nat → Int32), mi 0 = nI P ∧ (∀ x, x < P → ma 0 x = k x) ∧ RM P k vS vF mi ma ∧ ∀ q, q < 3 → RK P k vS vF ma q
def Rel (gi : Nat → Int32) (gl : Nat → Int64) (ga : Nat → Nat → Int32) (vS : Nat → Nat → Int32) (vF : Nat → Nat → Nat → Int32) (sN : Nat → Int32) (sF : Nat → Nat → Int32) (mi : Nat → Int32) (ml : Nat → Int64) (ma : Nat → Nat → Int32) : Prop :=
  RR sN sF ma ∧ RT sN sF ma ∧ RS gi gl ga mi ml ma ∧ RV vS vF mi ma
section
variable {gi : Nat → Int32} {gl : Nat → Int64} {ga : Nat → Nat → Int32} {vS : Nat → Nat → Int32} {vF : Nat → Nat → Nat → Int32} {sN : Nat → Int32} {sF : Nat → Nat → Int32} {mi : Nat → Int32} {ml : Nat → Int64} {ma : Nat → Nat → Int32}
theorem foundC {f : Nat} (h1 : 1 ≤ f) (h5 : f ≤ 5) : X8_found (nI f) gi ga = some (-3, va_up gi 0 (nI f), va_up ga 4 (upd (ga 4) f (ga 4 f + 1))) := by
  rw [X8_found, show (1 : Int32) = nI 1 from rfl, show (5 : Int32) = nI 5 from rfl, if_neg (nI_nlt h1 (by omega)), if_neg (nI_nlt h5 (by omega)), lt_, gd_nI (by omega) (by omega), gd_nI (by omega) (by omega), lt_, cl_nI (by omega)]
theorem findsM {f : Nat} (h5 : f ≤ 5) : X9_finds (nI f) mi ma = some (-3, va_up mi 4 (nI f), va_up ma 9 (upd (ma 9) f (ma 9 f + 1))) := by
  rw [X9_finds, lt_, gd_nI (by omega) (by omega), gd_nI (by omega) (by omega), lt_, cl_nI (by omega)]
theorem RS_found {f : Nat} (R : RS gi gl ga mi ml ma) (hf : f < 6) : RS (va_up gi 0 (nI f)) gl (va_up ga 4 (upd (ga 4) f (ga 4 f + 1))) (va_up mi 4 (nI f)) ml (va_up ma 9 (upd (ma 9) f (ma 9 f + 1))) := by
  refine ⟨rfl, R.2.1, R.2.2.1, R.2.2.2.1, fun g hg => ?_⟩
  show upd (ga 4) f (ga 4 f + 1) g = upd (ma 9) f (ma 9 f + 1) g
  unfold upd
  rw [R.2.2.2.2 f hf, R.2.2.2.2 g hg]
theorem Rel_found {f : Nat} (R : Rel gi gl ga vS vF sN sF mi ml ma) (hf : f < 6) : Rel (va_up gi 0 (nI f)) gl (va_up ga 4 (upd (ga 4) f (ga 4 f + 1))) vS vF sN sF (va_up mi 4 (nI f)) ml (va_up ma 9 (upd (ma 9) f (ma 9 f + 1))) :=
  ⟨R.1, R.2.1, RS_found R.2.2.1 hf, R.2.2.2⟩
theorem Rel_told {v : Int32} (R : Rel gi gl ga vS vF sN sF mi ml ma) : Rel (va_up gi 1 v) gl ga vS vF sN sF (va_up mi 3 v) ml ma :=
  ⟨R.1, R.2.1, ⟨R.2.2.1.1, rfl, R.2.2.1.2.2⟩, R.2.2.2⟩
end
theorem isRowC (x : Int32) : X8_isRow x = some (if 0 ≤ x.toInt ∧ x.toInt < 6 then 1 else 0) := by
  rw [X8_isRow]
  simp only [Int32.lt_iff_toInt_lt, Int32.le_iff_toInt_le, show (6 : Int32).toInt = 6 from rfl, show (0 : Int32).toInt = 0 from rfl]
  by_cases h : 0 ≤ x.toInt ∧ x.toInt < 6
  · rw [if_pos h, if_neg (by omega), if_neg (by omega)]
  · rw [if_neg h]
    split
    · rfl
    · rw [if_pos (by omega)]
theorem isRowM (x : Int32) : X9_isRow x = some (if 0 ≤ x.toInt ∧ x.toInt < 6 then 1 else 0) := by
  rw [X9_isRow, inI x 0 5 0 5 rfl rfl, Option.bind_some]
  by_cases h : 0 ≤ x.toInt ∧ x.toInt < 6
  · rw [if_pos h, if_pos (by omega)]; rfl
  · rw [if_neg h, if_neg (by omega)]; rfl
theorem isTextC (x : Int32) : X8_isText x = some (if 0 ≤ x.toInt ∧ x.toInt < 4 then 1 else 0) := by
  rw [X8_isText]
  simp only [Int32.lt_iff_toInt_lt, Int32.le_iff_toInt_le, show (4 : Int32).toInt = 4 from rfl, show (0 : Int32).toInt = 0 from rfl]
  by_cases h : 0 ≤ x.toInt ∧ x.toInt < 4
  · rw [if_pos h, if_neg (by omega), if_neg (by omega)]
  · rw [if_neg h]
    split
    · rfl
    · rw [if_pos (by omega)]
theorem isTextM (x : Int32) : X9_isText x = some (if 0 ≤ x.toInt ∧ x.toInt < 4 then 1 else 0) := by
  rw [X9_isText, inI x 0 3 0 3 rfl rfl, Option.bind_some]
  by_cases h : 0 ≤ x.toInt ∧ x.toInt < 4
  · rw [if_pos h, if_pos (by omega)]; rfl
  · rw [if_neg h, if_neg (by omega)]; rfl
theorem toI_ex {x : Int32} {N : Nat} (hN : N < 2 ^ 31) (h : 0 ≤ x.toInt ∧ x.toInt < N) : ∃ z, z < N ∧ x = nI z := by
  rcases pk_ix x (n := N) hN with q | q | q
  · have := Int32.lt_iff_toInt_lt.mp q
    have z : (0 : Int32).toInt = 0 := rfl
    omega
  · have := Int32.le_iff_toInt_le.mp q
    rw [toI_nI hN] at this
    omega
  · exact q
theorem row_cases (x : Int32) : (∃ r, r < 6 ∧ x = nI r ∧ X8_isRow (nI r) = some 1 ∧ X9_isRow (nI r) = some 1) ∨ (X8_isRow x = some 0 ∧ X9_isRow x = some 0) := by
  rw [isRowC x, isRowM x]
  by_cases h : 0 ≤ x.toInt ∧ x.toInt < 6
  · obtain ⟨r, hr, e⟩ := toI_ex (N := 6) (by omega) h
    rw [e] at h
    exact Or.inl ⟨r, hr, e, by rw [isRowC, if_pos h], by rw [isRowM, if_pos h]⟩
  · exact Or.inr ⟨by rw [if_neg h], by rw [if_neg h]⟩
theorem text_cases (x : Int32) : (∃ r, r < 4 ∧ x = nI r ∧ X8_isText (nI r) = some 1 ∧ X9_isText (nI r) = some 1) ∨ (X8_isText x = some 0 ∧ X9_isText x = some 0) := by
  rw [isTextC x, isTextM x]
  by_cases h : 0 ≤ x.toInt ∧ x.toInt < 4
  · obtain ⟨r, hr, e⟩ := toI_ex (N := 4) (by omega) h
    rw [e] at h
    exact Or.inl ⟨r, hr, e, by rw [isTextC, if_pos h], by rw [isTextM, if_pos h]⟩
  · exact Or.inr ⟨by rw [if_neg h], by rw [if_neg h]⟩
theorem one_ne : ¬ (1 : Int32) = 0 := by decide
theorem up_up {α : Type} (f : Nat → α) (k : Nat) (v w : α) : va_up (va_up f k v) k w = va_up f k w := bx_uu f k v w
theorem up_at {α : Type} (f : Nat → α) (k : Nat) (v : α) : va_up f k v k = v := by simp [va_up]
theorem up_ne {α : Type} (f : Nat → α) {k j : Nat} (v : α) (h : j ≠ k) : va_up f k v j = f j := by simp [va_up, h]
theorem sL_lt (j : Nat) : sL j ≤ 60 := by unfold sL; split <;> omega
theorem fillS (j : Nat) (v : Int32) (sF : Nat → Nat → Int32) : J7_fill_53178_s j v sF = some (va_up sF j (fb_put (sF j) (fun _ => v) 0 (sL j))) := by
  have hl := sL_lt j
  rw [J7_fill_53178_s]
  have key := lu4 (J7_fill_53178_s_5 j) (fun _ => v) nI (fun _ => Int32.ofNat (sL j)) (fun i => va_up sF j (fb_put (sF j) (fun _ => v) 0 i)) (sL j) (some (va_up sF j (fb_put (sF j) (fun _ => v) 0 (sL j)))) ?_ ?_ 0 500 (by omega) (by omega)
  · have e : va_up sF j (fb_put (sF j) (fun _ => v) 0 0) = sF := by
      rw [fb_put_0]; funext i; unfold va_up; split
      · rename_i h; rw [h]
      · rfl
    rw [e] at key; exact key
  · intro n i hi
    rw [J7_fill_53178_s_5, show Int32.ofNat (sL j) = nI (sL j) from rfl, if_neg (nI_ge hi (by omega)), gd_nI hi (by omega), lt_, cl_nI (by omega), nI_1, up_at, up_up]
    have e := fb_put_succ (sF j) (fun _ => v) 0 i
    rw [Nat.zero_add] at e
    rw [e]
  · intro n
    rw [J7_fill_53178_s_5, show Int32.ofNat (sL j) = nI (sL j) from rfl, if_pos (nI_le (Nat.le_refl _) (by omega))]
theorem layOutC {j n : Nat} (h : n ≤ sL j) (v : Int32) (sN : Nat → Int32) (sF : Nat → Nat → Int32) : X6_layOut j (nI n) v sN sF = some (va_up sN j (nI n), va_up sF j (fb_put (sF j) (fun _ => v) 0 (sL j))) := by
  have hl := sL_lt j
  rw [X6_layOut, if_neg (nI_pos (by omega)), show Int32.ofNat (sL j) = nI (sL j) from rfl, if_pos (nI_le h (by omega)), lt_, fillS, Option.bind_some]
