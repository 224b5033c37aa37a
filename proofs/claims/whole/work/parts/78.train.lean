section
variable {P n : Nat} {k t l h a : Nat → Int32} {d : Int32} {vS vS' : Nat → Nat → Int32} {vF vF' : Nat → Nat → Nat → Int32} {D D' : Nat → Nat} {mi mi' : Nat → Int32} {ma ma' : Nat → Nat → Int32}
variable {gi : Nat → Int32} {gl : Nat → Int64} {ga : Nat → Nat → Int32} {sN : Nat → Int32} {sF : Nat → Nat → Int32} {ml : Nat → Int64}
theorem MV_11 (m : MV P k t l h a d mi ma) (f : Nat → Int32) : MV P k t l h a d mi (va_up ma 11 f) := m
theorem upC_step (o : OKV P k t h a D) {x : Nat} (hx : x < P) (hd : D x ≠ 0) : upC h P (D x) x = fst9 P h (h x) (x + 1) (if h x = 9 then 9 else upC h P (D (h x).toNatClampNeg) (h x).toNatClampNeg) := by
  have h7 := o.1
  rcases o.2.2.2.1 x hx with ⟨h1, h2⟩ | ⟨h1, h2⟩ | ⟨w, hw, h1, h2, h3⟩
  · omega
  · rw [h2, upC, fst9, h1]; simp
  · rw [h3, upC, fst9, h1, cl_nI (by omega), if_neg (nI_ne9 (by omega)).2]
/-- the reference walks the TRAIN in the same order -/
theorem walkM (o : OKV P k t h a D) {r tot : Nat} (hr : r < 6) (ht : tot ≤ 7) : ∀ f, (∀ x, x < P → D x ≠ 0 → f + D x = 7 → ∀ p F (ma : Nat → Nat → Int32), MV P k t l h a d mi ma → p + (trF h P f (nI x)).length ≤ tot →
      X9_train_47 ((trF h P f (nI x)).length + F) (nI r) (nI tot) (fst9 P h (nI x) 0 (upC h P (D x) x)) (nI p) mi ma = X9_train_47 F (nI r) (nI tot) (upC h P (D x) x) (nI (p + (trF h P f (nI x)).length)) mi (va_up ma 11 (wl (ma 11) (40 * r + p) (trF h P f (nI x))))) ∧
    (∀ y z, (∀ j, j < P → h j = y → D j ≠ 0 ∧ f + D j = 7 ∧ (if h j = 9 then 9 else upC h P (D (h j).toNatClampNeg) (h j).toNatClampNeg) = z) → ∀ q i p F (ma : Nat → Nat → Int32), i + q = 7 → MV P k t l h a d mi ma → p + (trL h P (trF h P f) y q i).length ≤ tot →
      X9_train_47 ((trL h P (trF h P f) y q i).length + F) (nI r) (nI tot) (fst9 P h y i z) (nI p) mi ma = X9_train_47 F (nI r) (nI tot) z (nI (p + (trL h P (trF h P f) y q i).length)) mi (va_up ma 11 (wl (ma 11) (40 * r + p) (trL h P (trF h P f) y q i)))) := by
  have h7 := o.1
  have inner : ∀ f, (∀ x, x < P → D x ≠ 0 → f + D x = 7 → ∀ p F (ma : Nat → Nat → Int32), MV P k t l h a d mi ma → p + (trF h P f (nI x)).length ≤ tot →
      X9_train_47 ((trF h P f (nI x)).length + F) (nI r) (nI tot) (fst9 P h (nI x) 0 (upC h P (D x) x)) (nI p) mi ma = X9_train_47 F (nI r) (nI tot) (upC h P (D x) x) (nI (p + (trF h P f (nI x)).length)) mi (va_up ma 11 (wl (ma 11) (40 * r + p) (trF h P f (nI x))))) →
      (∀ y z, (∀ j, j < P → h j = y → D j ≠ 0 ∧ f + D j = 7 ∧ (if h j = 9 then 9 else upC h P (D (h j).toNatClampNeg) (h j).toNatClampNeg) = z) → ∀ q i p F (ma : Nat → Nat → Int32), i + q = 7 → MV P k t l h a d mi ma → p + (trL h P (trF h P f) y q i).length ≤ tot →
      X9_train_47 ((trL h P (trF h P f) y q i).length + F) (nI r) (nI tot) (fst9 P h y i z) (nI p) mi ma = X9_train_47 F (nI r) (nI tot) z (nI (p + (trL h P (trF h P f) y q i).length)) mi (va_up ma 11 (wl (ma 11) (40 * r + p) (trL h P (trF h P f) y q i)))) := by
    intro f outer y z hy q
    induction q with
    | zero =>
      intro i p F ma hi m hp
      have e0 : fst9 P h y i z = z := by rw [fst9, show P - i = 0 by omega, firstF]
      have e1 : va_up ma 11 (wl (ma 11) (40 * r + p) []) = ma := up_id ma 11
      rw [trL, e0, e1]
      show X9_train_47 (0 + F) _ _ _ _ _ _ = X9_train_47 F _ _ _ (nI (p + 0)) _ _
      rw [Nat.zero_add, Nat.add_zero]
    | succ q ih =>
      intro i p F ma hi m hp
      rw [trL] at hp ⊢
      by_cases hc : i < P ∧ h i = y
      · rw [if_pos hc] at hp ⊢
        obtain ⟨di, fi, ez⟩ := hy i hc.1 hc.2
        have el : ∀ (A B : List Nat), (i :: (A ++ B)).length = 1 + A.length + B.length := fun A B => by simp; omega
        have ef : fst9 P h y i z = nI i := by
          rw [fst9, firstF_min (p := fun j => decide (h j = y)) (P - i) i i (by omega) (by omega) (by simp [hc.2]) (fun j h1 h2 => by omega)]
        rw [el] at hp ⊢
        rw [ef, show 1 + (trF h P f (nI i)).length + (trL h P (trF h P f) y q (i + 1)).length + F = ((trF h P f (nI i)).length + ((trL h P (trF h P f) y q (i + 1)).length + F)) + 1 by omega, X9_train_47, if_neg (nI_ge (by omega) (by omega)), show (40 : Int32) * nI r + nI p = nI (40 * r + p) from mixN 40 r p, gd_nI (show 40 * r + p < 240 by omega) (by omega), cl_nI (by omega), lt_, behindM (MV_11 m _) o hc.1 di, Option.bind_some, nI_1, outer i hc.1 di fi (p + 1) _ _ (MV_11 m _) (by omega), upC_step o hc.1 di, ez, hc.2, up_at, up_up, ih (i + 1) (p + 1 + (trF h P f (nI i)).length) F _ (by omega) (MV_11 m _) (by omega), up_at, up_up]
        have e1 : wl (ma 11) (40 * r + p) (i :: (trF h P f (nI i) ++ trL h P (trF h P f) y q (i + 1))) = wl (wl (upd (ma 11) (40 * r + p) (nI i)) (40 * r + (p + 1)) (trF h P f (nI i))) (40 * r + (p + 1 + (trF h P f (nI i)).length)) (trL h P (trF h P f) y q (i + 1)) := by
          show wl (upd (ma 11) (40 * r + p) (nI i)) (40 * r + p + 1) (trF h P f (nI i) ++ trL h P (trF h P f) y q (i + 1)) = _
          rw [wl_app, show 40 * r + p + 1 = 40 * r + (p + 1) by omega, show 40 * r + (p + 1) + (trF h P f (nI i)).length = 40 * r + (p + 1 + (trF h P f (nI i)).length) by omega]
        rw [e1, show p + (1 + (trF h P f (nI i)).length + (trL h P (trF h P f) y q (i + 1)).length) = p + 1 + (trF h P f (nI i)).length + (trL h P (trF h P f) y q (i + 1)).length by omega]
      · rw [if_neg hc] at hp ⊢
        have ef : fst9 P h y i z = fst9 P h y (i + 1) z := by
          unfold fst9
          rcases Nat.lt_or_ge i P with w | w
          · obtain ⟨v, hv⟩ : ∃ v, P - i = v + 1 := ⟨P - i - 1, by omega⟩
            have hn : ¬ h i = y := fun e => hc ⟨w, e⟩
            rw [hv, firstF, if_neg (by simp [hn]), show P - (i + 1) = v by omega]
          · rw [show P - i = 0 by omega, show P - (i + 1) = 0 by omega, firstF, firstF]
        rw [ef]
        exact ih (i + 1) p F ma (by omega) m hp
  intro f
  induction f with
  | zero =>
    have o1 : ∀ x, x < P → D x ≠ 0 → 0 + D x = 7 → ∀ p F (ma : Nat → Nat → Int32), MV P k t l h a d mi ma → p + (trF h P 0 (nI x)).length ≤ tot →
      X9_train_47 ((trF h P 0 (nI x)).length + F) (nI r) (nI tot) (fst9 P h (nI x) 0 (upC h P (D x) x)) (nI p) mi ma = X9_train_47 F (nI r) (nI tot) (upC h P (D x) x) (nI (p + (trF h P 0 (nI x)).length)) mi (va_up ma 11 (wl (ma 11) (40 * r + p) (trF h P 0 (nI x)))) := by
      intro x hx dx fx p F ma m hp
      have e1 : va_up ma 11 (wl (ma 11) (40 * r + p) []) = ma := up_id ma 11
      have e0 : fst9 P h (nI x) 0 (upC h P (D x) x) = upC h P (D x) x := by
        rw [fst9, (firstF_none (P - 0) 0).mpr (fun j _ hj => ?_)]
        by_cases e : h j = nI x
        · exfalso
          rcases o.2.2.2.1 j (by omega) with ⟨h1, h2⟩ | ⟨h1, h2⟩ | ⟨w, hw, h1, h2, h3⟩
          · rw [h1] at e; exact (nI_ne9 (by omega)).1 e.symm
          · rw [h1] at e; exact (nI_ne9 (by omega)).2 e.symm
          · have : w = x := (nI_eq (by omega) (by omega)).mp (h1.symm.trans e)
            subst this
            have := o.d7 (show j < P by omega)
            omega
        · simp [e]
      rw [trF, e0, e1]
      show X9_train_47 (0 + F) _ _ _ _ _ _ = X9_train_47 F _ _ _ (nI (p + 0)) _ _
      rw [Nat.zero_add, Nat.add_zero]
    exact ⟨o1, inner 0 o1⟩
  | succ f ih =>
    have o1 : ∀ x, x < P → D x ≠ 0 → (f + 1) + D x = 7 → ∀ p F (ma : Nat → Nat → Int32), MV P k t l h a d mi ma → p + (trF h P (f + 1) (nI x)).length ≤ tot →
      X9_train_47 ((trF h P (f + 1) (nI x)).length + F) (nI r) (nI tot) (fst9 P h (nI x) 0 (upC h P (D x) x)) (nI p) mi ma = X9_train_47 F (nI r) (nI tot) (upC h P (D x) x) (nI (p + (trF h P (f + 1) (nI x)).length)) mi (va_up ma 11 (wl (ma 11) (40 * r + p) (trF h P (f + 1) (nI x)))) := by
      intro x hx dx fx p F ma m hp
      rw [trF] at hp ⊢
      refine ih.2 (nI x) (upC h P (D x) x) (fun j hj e => ?_) 7 0 p F ma (by omega) m hp
      rcases o.2.2.2.1 j hj with ⟨h1, h2⟩ | ⟨h1, h2⟩ | ⟨w, hw, h1, h2, h3⟩
      · rw [h1] at e; exact absurd e.symm (nI_ne9 (by omega)).1
      · rw [h1] at e; exact absurd e.symm (nI_ne9 (by omega)).2
      · have : w = x := (nI_eq (by omega) (by omega)).mp (h1.symm.trans e)
        subst this
        refine ⟨by omega, by omega, ?_⟩
        rw [h1, if_neg (nI_ne9 (by omega)).2, cl_nI (by omega)]
    exact ⟨o1, inner (f + 1) o1⟩
end
