section
variable {P n : Nat} {k t l h a : Nat → Int32} {d : Int32} {vS : Nat → Nat → Int32} {vF : Nat → Nat → Nat → Int32} {D : Nat → Nat} {mi : Nat → Int32} {ma : Nat → Nat → Int32}
variable {gi : Nat → Int32} {gl : Nat → Int64} {ga : Nat → Nat → Int32} {sN : Nat → Int32} {sF : Nat → Nat → Int32} {ml : Nat → Int64}
def INV (P : Nat) (h : Nat → Int32) (D : Nat → Nat) (dd x0 : Nat) (G : Nat → Int32) : Prop := ∀ y, y < P → (dd + 2 ≤ D y → G y = 0) ∧ ∀ w, w < P → x0 ≤ w → h y = nI w → D w = dd → G y = 0
theorem GS_inv (o : OKV P k t h a D) {dd x : Nat} (hx : x < P) {G : Nat → Int32} (I : INV P h D dd x G) : INV P h D dd (x + 1) (GS P h D dd x G) := by
  have h7 := o.1
  intro y hy
  unfold GS
  by_cases hc : D x = dd ∧ cnt (HS h (nI x)) P ≠ 0 ∧ ¬ G x ≤ 1
  · rw [if_pos hc]
    refine ⟨fun hd => ?_, fun w hw hxw e ew => ?_⟩
    · rw [upd_ne _ _ (show y ≠ x from fun q => by rw [q] at hd; omega), DL, if_neg, (I y hy).1 hd]
      intro q
      have : h y = nI x := by simpa [HS] using q.2
      have := o.hang1 hy hx this
      omega
    · have hh := o.hang1 hy hw e
      rw [upd_ne _ _ (show y ≠ x from fun q => by rw [q] at hh; omega), DL, if_neg, (I y hy).2 w hw (by omega) e ew]
      intro q
      have e2 : h y = nI x := by simpa [HS] using q.2
      have : w = x := (nI_eq (by omega) (by omega)).mp (e.symm.trans e2)
      omega
  · rw [if_neg hc]
    exact ⟨(I y hy).1, fun w hw hxw => (I y hy).2 w hw (by omega)⟩
theorem GD_inv (o : OKV P k t h a D) {dd : Nat} {G : Nat → Int32} (I : INV P h D dd 0 G) : ∀ i, i ≤ P → INV P h D dd i (GD P h D dd i G)
  | 0, _ => I
  | i + 1, hi => GS_inv o (by omega) (GD_inv o I i (by omega))
theorem INV_up (o : OKV P k t h a D) {dd : Nat} {G : Nat → Int32} (I : INV P h D dd P G) : INV P h D (dd + 1) 0 G := fun y hy => ⟨fun q => (I y hy).1 (by omega), fun w hw _ e ew => (I y hy).1 (by have := (o.hang1 hy hw e).2; omega)⟩
theorem GA_inv (o : OKV P k t h a D) {G : Nat → Int32} (I : INV P h D 1 0 G) : ∀ i, INV P h D (i + 1) 0 (GA P h D i G)
  | 0 => I
  | i + 1 => INV_up o (GD_inv o (GA_inv o I i) P (Nat.le_refl _))
theorem le01 {v : Int32} (h1 : v ≤ 1) (h0 : ¬ v ≤ 0) : v = 1 := by
  rw [Int32.le_iff_toInt_le] at h1 h0
  apply Int32.toInt_inj.mp
  have e1 : (1 : Int32).toInt = 1 := rfl
  have e0 : (0 : Int32).toInt = 0 := rfl
  omega
theorem gold81 (m : MV P k t l h a d mi ma) (o : OKV P k t h a D) {dd : Nat} (hdd : dd ≤ 7) (I : INV P h D dd 0 (ma 28)) (k71 : Int32 → Int32 → Int32 → (Nat → Int32) → (Nat → Nat → Int32) → Option (Int32 × (Nat → Int32) × (Nat → Nat → Int32))) (v1 v2 : Int32) : X9_gold_81 k71 500 v1 v2 (nI dd) 0 mi ma = k71 v1 v2 (nI (dd + 1)) mi (va_up ma 28 (GD P h D dd P (ma 28))) := by
  have h7 := o.1
  have key : ∀ q i n, i + q = P → q < n → X9_gold_81 k71 n v1 v2 (nI dd) (nI i) mi (va_up ma 28 (GD P h D dd i (ma 28))) = k71 v1 v2 (nI (dd + 1)) mi (va_up ma 28 (GD P h D dd P (ma 28))) := by
    intro q
    induction q with
    | zero =>
      intro i n e1 e2
      obtain ⟨n, rfl⟩ : ∃ z, n = z + 1 := ⟨n - 1, by omega⟩
      have : i = P := by omega
      subst this
      rw [X9_gold_81, m.1, if_pos (nI_le (Nat.le_refl _) (by omega)), nI_1]
    | succ q ih =>
      intro i n e1 e2
      obtain ⟨n, rfl⟩ : ∃ z, n = z + 1 := ⟨n - 1, by omega⟩
      have hi : i < P := by omega
      have d7 := o.d7 hi
      have Ii := GD_inv o I i (by omega)
      have m2 : ∀ G, MV P k t l h a d mi (va_up ma 28 G) := fun _ => m
      have e := ih (i + 1) n (by omega) (by omega)
      rw [GD, GS] at e
      rw [X9_gold_81, m.1, if_neg (nI_ge hi (by omega)), hangSetM (m2 _) o, Option.bind_some, depthM (m2 _) o hi, Option.bind_some, nI_1]
      by_cases k1 : D i = dd
      · rw [if_pos (by rw [k1])]
        by_cases k2 : cnt (HS h (nI i)) P = 0
        · rw [if_neg (fun w => w.2.1 k2)] at e
          rw [if_pos ((nI_b0 h7 _).mpr k2)]
          exact e
        · rw [if_neg (fun w => k2 ((nI_b0 h7 _).mp w)), gd_nI (by omega) (by omega), gd_nI (by omega) (by omega), cl_nI (by omega), up_at]
          by_cases k0 : GD P h D dd i (ma 28) i ≤ 0
          · have k3 : GD P h D dd i (ma 28) i ≤ 1 := by
              rw [Int32.le_iff_toInt_le] at k0 ⊢
              have e1 : (1 : Int32).toInt = 1 := rfl
              have e0 : (0 : Int32).toInt = 0 := rfl
              omega
            rw [if_neg (fun w => w.2.2 k3)] at e
            rw [if_pos k0]; exact e
          · rw [if_neg k0, dealM m o, Option.bind_some, gd_nI (by omega) (by omega), lt_, up_at, up_at, up_up, up_up]
            by_cases k3 : GD P h D dd i (ma 28) i ≤ 1
            · have e1 := le01 k3 k0
              rw [if_neg (fun w => w.2.2 k3)] at e
              rw [e1, show (1 : Int32) - 1 = 0 from rfl, DL_none h7 (fun x hx hp => (Ii x hx).2 i hi (Nat.le_refl _) (by simpa [HS] using hp) k1), fa_upd_same e1]
              exact e
            · rw [if_pos ⟨k1, k2, k3⟩] at e
              exact e
      · rw [if_neg (fun w => k1 ((nI_eq (by omega) (by omega)).mp w))]
        rw [if_neg (fun w => k1 w.1)] at e
        exact e
  have := key P 0 500 (by omega) (by omega)
  rw [GD, up_id] at this
  exact this
theorem gold71 (m : MV P k t l h a d mi ma) (o : OKV P k t h a D) (I : INV P h D 1 0 (ma 28)) (v1 v2 : Int32) : X9_gold_71 500 v1 v2 1 mi ma = X9_gold_162 500 v1 v2 0 mi (va_up ma 28 (GA P h D 7 (ma 28))) := by
  have key : ∀ q i n, i + q = 7 → q < n → X9_gold_71 n v1 v2 (nI (i + 1)) mi (va_up ma 28 (GA P h D i (ma 28))) = X9_gold_162 500 v1 v2 0 mi (va_up ma 28 (GA P h D 7 (ma 28))) := by
    intro q
    induction q with
    | zero =>
      intro i n e1 e2
      obtain ⟨n, rfl⟩ : ∃ z, n = z + 1 := ⟨n - 1, by omega⟩
      have : i = 7 := by omega
      subst this
      rw [X9_gold_71, if_pos (by decide)]
    | succ q ih =>
      intro i n e1 e2
      obtain ⟨n, rfl⟩ : ∃ z, n = z + 1 := ⟨n - 1, by omega⟩
      have e := ih (i + 1) n (by omega) (by omega)
      have m2 : MV P k t l h a d mi (va_up ma 28 (GA P h D i (ma 28))) := m
      have I2 : INV P h D (i + 1) 0 (va_up ma 28 (GA P h D i (ma 28)) 28) := GA_inv o I i
      rw [X9_gold_71, if_neg (show ¬ (8 : Int32) ≤ nI (i + 1) from (nI_ge (show i + 1 < 8 by omega) (by omega) : ¬ nI 8 ≤ nI (i + 1))), gold81 m2 o (by omega) I2, up_at, up_up]
      rw [GA] at e
      exact e
  have := key 7 0 500 (by omega) (by omega)
  rw [GA, up_id] at this
  exact this
theorem gold34 (h7 : P ≤ 7) (e0 : mi 0 = nI P) (v1 v2 : Int32) : X9_gold_34 500 v1 v2 0 mi ma = (X9_hangSet mi (va_up ma 28 (fb_put (ma 28) (fun _ => 0) 0 P)) 9).bind (fun r62 => (X9_deal mi v1 r62 (va_up ma 28 (fb_put (ma 28) (fun _ => 0) 0 P))).bind (fun ma_65 => X9_gold_71 500 v1 v2 1 mi ma_65)) := by
  have key := lu5 X9_gold_34 (fun _ => v1) (fun _ => v2) nI (fun _ => mi) (fun i => va_up ma 28 (fb_put (ma 28) (fun _ => 0) 0 i)) P ((X9_hangSet mi (va_up ma 28 (fb_put (ma 28) (fun _ => 0) 0 P)) 9).bind (fun r62 => (X9_deal mi v1 r62 (va_up ma 28 (fb_put (ma 28) (fun _ => 0) 0 P))).bind (fun ma_65 => X9_gold_71 500 v1 v2 1 mi ma_65))) ?_ ?_ 0 500 (by omega) (by omega)
  · rw [fb_put_0, up_id] at key; exact key
  · intro n i hi
    rw [X9_gold_34, e0, if_neg (nI_ge hi (by omega)), gd_nI (by omega) (by omega), lt_, cl_nI (by omega), nI_1, up_at, up_up]
    have e := fb_put_succ (ma 28) (fun _ => (0 : Int32)) 0 i
    rw [Nat.zero_add] at e
    rw [e]
  · intro n
    rw [X9_gold_34, e0, if_pos (nI_le (Nat.le_refl _) (by omega))]
theorem gold162 (m : MV P k t l h a d mi ma) (o : OKV P k t h a D) {r : Nat} (hr : r < 6) (v1 : Int32) : X9_gold_162 500 v1 (nI r) 0 mi ma = some (if cnt (HS h 9) P = 0 then v1 else 0, mi, va_up ma 11 (fb_put (ma 11) (ma 28) (40 * r) P)) := by
  have h7 := o.1
  have key := lu5 X9_gold_162 (fun _ => v1) (fun _ => nI r) nI (fun _ => mi) (fun i => va_up ma 11 (fb_put (ma 11) (ma 28) (40 * r) i)) P (some (if cnt (HS h 9) P = 0 then v1 else 0, mi, va_up ma 11 (fb_put (ma 11) (ma 28) (40 * r) P))) ?_ ?_ 0 500 (by omega) (by omega)
  · rw [fb_put_0, up_id] at key; exact key
  · intro n i hi
    rw [X9_gold_162, m.1, if_neg (nI_ge hi (by omega)), gd_nI (by omega) (by omega), show (40 : Int32) * nI r + nI i = nI (40 * r + i) from mixN 40 r i, gd_nI (by omega) (by omega), lt_, cl_nI (by omega), cl_nI (by omega), nI_1, up_at, up_up, up_ne _ _ (show 28 ≠ 11 by omega), fb_put_succ]
  · intro n
    have m2 : MV P k t l h a d mi (va_up ma 11 (fb_put (ma 11) (ma 28) (40 * r) P)) := m
    rw [X9_gold_162, m.1, if_pos (nI_le (Nat.le_refl _) (by omega)), hangSetM m2 o, Option.bind_some]
    by_cases e : cnt (HS h 9) P = 0
    · rw [if_pos ((nI_b0 h7 _).mpr e), if_pos e]
    · rw [if_neg (fun w => e ((nI_b0 h7 _).mp w)), if_neg e]
/-! what is the same where the PEOPLE are -/
theorem DL_cg {p : Nat → Bool} {v : Int32} {G G' : Nat → Int32} {N : Nat} (e : ∀ x, x < P → G x = G' x) : ∀ x, x < P → DL p N v G P x = DL p N v G' P x := fun x hx => by
  unfold DL
  by_cases q : x < P ∧ p x = true
  · rw [if_pos q, if_pos q]
  · rw [if_neg q, if_neg q, e x hx]
theorem GS_cg {dd x : Nat} (hx : x < P) {G G' : Nat → Int32} (e : ∀ x, x < P → G x = G' x) : ∀ y, y < P → GS P h D dd x G y = GS P h D dd x G' y := fun y hy => by
  unfold GS
  rw [e x hx]
  by_cases hc : D x = dd ∧ cnt (HS h (nI x)) P ≠ 0 ∧ ¬ G' x ≤ 1
  · rw [if_pos hc, if_pos hc]
    unfold upd
    by_cases q : y = x
    · rw [if_pos q, if_pos q]
    · rw [if_neg q, if_neg q]; exact DL_cg e y hy
  · rw [if_neg hc, if_neg hc]; exact e y hy
theorem GD_cg {dd : Nat} {G G' : Nat → Int32} (e : ∀ x, x < P → G x = G' x) : ∀ i, i ≤ P → ∀ y, y < P → GD P h D dd i G y = GD P h D dd i G' y
  | 0, _ => e
  | i + 1, hi => GS_cg (by omega) (GD_cg e i (by omega))
theorem GA_cg {G G' : Nat → Int32} (e : ∀ x, x < P → G x = G' x) : ∀ i y, y < P → GA P h D i G y = GA P h D i G' y
  | 0 => e
  | i + 1 => GD_cg (GA_cg e i) P (Nat.le_refl _)
theorem GD_out {dd : Nat} {G : Nat → Int32} {y : Nat} (hy : P ≤ y) : ∀ i, i ≤ P → GD P h D dd i G y = G y
  | 0, _ => rfl
  | i + 1, hi => by
    rw [GD, GS]
    split
    · rw [upd_ne _ _ (by omega), DL, if_neg (by omega), GD_out hy i (by omega)]
    · exact GD_out hy i (by omega)
theorem GA_out {G : Nat → Int32} {y : Nat} (hy : P ≤ y) : ∀ i, GA P h D i G y = G y
  | 0 => rfl
  | i + 1 => by rw [GA, GD_out hy P (Nat.le_refl _), GA_out hy i]
theorem GD_free {dd : Nat} (hd : ∀ x, x < P → D x ≠ dd) (G : Nat → Int32) : ∀ i, i ≤ P → GD P h D dd i G = G
  | 0, _ => rfl
  | i + 1, hi => by rw [GD, GS, if_neg (fun w => hd i (by omega) w.1), GD_free hd G i (by omega)]
theorem GA_free (hd : ∀ x, x < P → D x = 0) (G : Nat → Int32) : ∀ i, GA P h D i G = G
  | 0 => rfl
  | i + 1 => by rw [GA, GD_free (fun x hx => by rw [hd x hx]; omega) _ P (Nat.le_refl _), GA_free hd G i]
theorem no_goose (o : OKV P k t h a D) (hc : cnt (HS h 9) P = 0) : ∀ x, x < P → D x = 0 := by
  have key : ∀ m x, x < P → D x ≠ m + 1 := by
    intro m
    induction m with
    | zero =>
      intro x hx q
      have := cnt_0.mp hc x hx
      rw [HS, decide_eq_false_iff_not] at this
      exact this ((o.nine hx).mpr q)
    | succ m ih =>
      intro x hx q
      rcases o.2.2.2.1 x hx with ⟨h1, h2⟩ | ⟨h1, h2⟩ | ⟨y, hy, h1, h2, h3⟩
      · omega
      · omega
      · exact ih y hy (by omega)
  intro x hx
  rcases Nat.eq_zero_or_pos (D x) with q | q
  · exact q
  · exact absurd (show D x = (D x - 1) + 1 by omega) (key _ x hx)
theorem st_gold (R : Rel gi gl ga vS vF sN sF mi ml ma) (x y : Int32) : ∃ r sN' sF' mi' ma', X8_gold vS vF x y sN sF = some (r, sN', sF') ∧ X9_gold x y mi ma = some (r, mi', ma') ∧ Rel gi gl ga vS vF sN' sF' mi' ml ma' := by
  by_cases hx : 0 ≤ x.toInt ∧ x.toInt ≤ 99
  · have x1 : ¬ x < 0 := by rw [Int32.lt_iff_toInt_lt, zI]; omega
    have x2 : ¬ (99 : Int32) < x := by rw [Int32.lt_iff_toInt_lt, show (99 : Int32).toInt = 99 from rfl]; omega
    rcases row_cases y with ⟨r, hr, rfl, h1, h2⟩ | ⟨h1, h2⟩
    · obtain ⟨P, k, t, l, h, a, d, D, c, m, o, -⟩ := R.2.2.2.view
      have h7 := o.1
      have es : va_up sN r (nI P) r = nI P := up_at _ _ _
      have m2 : ∀ F G H, MV P k t l h a d mi (va_up (va_up (va_up ma 10 F) 11 G) 28 H) := fun _ _ _ => m
      have I : INV P h D 1 0 (DL (HS h 9) P x (fb_put (ma 28) (fun _ => 0) 0 P) P) := by
        intro y hy
        refine ⟨fun hd => ?_, fun w hw _ e ew => ?_⟩
        · rw [DL, if_neg, fb_put_in (by omega) (by omega)]
          intro q
          have := (o.nine hy).mp (by simpa [HS] using q.2)
          omega
        · rw [DL, if_neg, fb_put_in (by omega) (by omega)]
          intro q
          have := (o.nine hy).mp (by simpa [HS] using q.2)
          have := (o.hang1 hy hw e).2
          omega
      have hM : X9_gold x (nI r) mi ma = some (if cnt (HS h 9) P = 0 then x else 0, mi, va_up (va_up (va_up (va_up ma 10 (upd (ma 10) r (nI P))) 11 (fb_put (ma 11) (fun _ => 0) (40 * r) 40)) 28 (GA P h D 7 (DL (HS h 9) P x (fb_put (ma 28) (fun _ => 0) 0 P) P))) 11 (fb_put (fb_put (ma 11) (fun _ => 0) (40 * r) 40) (GA P h D 7 (DL (HS h 9) P x (fb_put (ma 28) (fun _ => 0) 0 P) P)) (40 * r) P)) := by
        rw [X9_gold, inI x 0 99 0 99 rfl rfl, if_pos hx, Option.bind_some, if_neg one_ne, h2, Option.bind_some, if_neg one_ne, m.1, rowM hr (by omega), bd3_some, gold34 h7 m.1, hangSetM (m2 _ _ _) o, Option.bind_some, dealM m o, Option.bind_some, up_at, up_up, gold71 (m2 _ _ _) o (by rw [up_at]; exact I), up_at, up_up, gold162 (m2 _ _ _) o hr, up_at, up_ne _ _ (show 11 ≠ 28 by omega), up_at]
        rfl
      have hRel : ∀ F : Nat → Int32, (∀ i, i < 40 → F i = if i < P then GA P h D 7 (DL (HS h 9) P x (fb_put (ma 28) (fun _ => 0) 0 P) P) i else 0) → Rel gi gl ga vS vF (va_up sN r (nI P)) (va_up sF r F) mi ml (va_up (va_up (va_up (va_up ma 10 (upd (ma 10) r (nI P))) 11 (fb_put (ma 11) (fun _ => 0) (40 * r) 40)) 28 (GA P h D 7 (DL (HS h 9) P x (fb_put (ma 28) (fun _ => 0) 0 P) P))) 11 (fb_put (fb_put (ma 11) (fun _ => 0) (40 * r) 40) (GA P h D 7 (DL (HS h 9) P x (fb_put (ma 28) (fun _ => 0) 0 P) P)) (40 * r) P)) := by
        intro F hF
        refine ⟨RR_set R.1 hr (Or.inr ⟨P, by omega, rfl⟩) rfl (fun i hi => ?_) (fun q hq => ?_), RT_row R.2.1 hr rfl rfl, R.2.2.1, R.2.2.2⟩
        · show F i = fb_put (fb_put (ma 11) (fun _ => 0) (40 * r) 40) (GA P h D 7 (DL (HS h 9) P x (fb_put (ma 28) (fun _ => 0) 0 P) P)) (40 * r) P (40 * r + i)
          rw [hF i hi]
          by_cases q : i < P
          · rw [if_pos q, fb_put_in (by omega) (by omega), show 40 * r + i - 40 * r = i by omega]
          · rw [if_neg q, fb_put_out (by omega), fb_put_in (by omega) (by omega)]
        · show fb_put (fb_put (ma 11) (fun _ => 0) (40 * r) 40) (GA P h D 7 (DL (HS h 9) P x (fb_put (ma 28) (fun _ => 0) 0 P) P)) (40 * r) P q = ma 11 q
          rw [fb_put_out (by omega), fb_put_out (by omega)]
      by_cases hc : cnt (HS h 9) P = 0
      · refine ⟨x, va_up sN r (nI P), va_up sF r (fb_put (sF r) (fun _ => 0) 0 40), _, _, ?_, by rw [hM, if_pos hc], hRel _ (fun i hi => ?_)⟩
        · rw [X8_gold, if_neg x1, if_neg x2, h1, Option.bind_some, if_neg one_ne, gd_nI hr (by omega), cl_nI (by omega), c.1, layOutC (by rw [sL40 hr]; omega), bd2_some, hangersC c o nine_ne, Option.bind_some, if_pos ((nI_b0 h7 _).mpr hc), sL40 hr]
        · rw [fb_put_in (by omega) (by omega), GA_free (no_goose o hc)]
          by_cases q : i < P
          · rw [if_pos q, DL, if_neg, fb_put_in (by omega) (by omega)]
            intro w
            have := cnt_0.mp hc i q
            rw [w.2] at this; exact absurd this (by decide)
          · rw [if_neg q]
      · refine ⟨0, va_up sN r (nI P), va_up sF r (GA P h D 7 (DL (HS h 9) P x (fb_put (sF r) (fun _ => 0) 0 40) P)), _, _, ?_, by rw [hM, if_neg hc], hRel _ (fun i hi => ?_)⟩
        · rw [X8_gold, if_neg x1, if_neg x2, h1, Option.bind_some, if_neg one_ne, gd_nI hr (by omega), cl_nI (by omega), c.1, layOutC (by rw [sL40 hr]; omega), bd2_some, hangersC c o nine_ne, Option.bind_some, if_neg (fun w => hc ((nI_b0 h7 _).mp w)), gd_nI hr (by omega), dealC c o hr es nine_ne, Option.bind_some, goldC c o hr es, sL40 hr, up_at, up_up, up_at, up_up]
        · by_cases q : i < P
          · rw [if_pos q]
            refine GA_cg (fun z hz => DL_cg (fun w hw => ?_) z hz) 7 i q
            rw [fb_put_in (by omega) (by omega), fb_put_in (by omega) (by omega)]
          · rw [if_neg q, GA_out (by omega), DL, if_neg (by omega), fb_put_in (by omega) (by omega)]
    · refine ⟨-1, sN, sF, mi, ma, ?_, ?_, R⟩
      · rw [X8_gold, if_neg x1, if_neg x2, h1, Option.bind_some, if_pos rfl]
      · rw [X9_gold, inI x 0 99 0 99 rfl rfl, if_pos hx, Option.bind_some, if_neg one_ne, h2, Option.bind_some, if_pos rfl]
  · refine ⟨-1, sN, sF, mi, ma, ?_, ?_, R⟩
    · rw [X8_gold]
      by_cases h0 : x < 0
      · rw [if_pos h0]
      · rw [if_neg h0, if_pos]
        rw [Int32.lt_iff_toInt_lt, zI] at h0
        rw [Int32.lt_iff_toInt_lt, show (99 : Int32).toInt = 99 from rfl]; omega
    · rw [X9_gold, inI x 0 99 0 99 rfl rfl, if_neg hx, Option.bind_some, if_pos rfl]
end
