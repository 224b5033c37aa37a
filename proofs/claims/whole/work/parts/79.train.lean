theorem sN_cg {f g : Nat → Nat} : ∀ n, (∀ i, i < n → f i = g i) → smN f n = smN g n
  | 0, _ => rfl
  | n + 1, h => by rw [smN, smN, sN_cg n (fun i hi => h i (by omega)), h n (by omega)]
theorem sN_ad (f g : Nat → Nat) : ∀ n, smN (fun i => f i + g i) n = smN f n + smN g n
  | 0 => rfl
  | n + 1 => by rw [smN, smN, smN, sN_ad f g n]; omega
theorem smN_zero {f : Nat → Nat} : ∀ n, (∀ i, i < n → f i = 0) → smN f n = 0
  | 0, _ => rfl
  | n + 1, h => by rw [smN, smN_zero n (fun i hi => h i (by omega)), h n (by omega)]
theorem smN_swap (F : Nat → Nat → Nat) (m : Nat) : ∀ n, smN (fun i => smN (F i) m) n = smN (fun j => smN (fun i => F i j) n) m
  | 0 => (smN_zero (f := fun j => smN (fun i => F i j) 0) m (fun _ _ => rfl)).symm
  | n + 1 => by
    show smN (fun i => smN (F i) m) n + smN (F n) m = smN (fun j => smN (fun i => F i j) n + F n j) m
    rw [smN_swap F m n, sN_ad]
theorem smN_one {w : Nat} {f : Nat → Nat} : ∀ n, w < n → (∀ i, i < n → i ≠ w → f i = 0) → smN f n = f w
  | 0, h, _ => by omega
  | n + 1, h, z => by
    rw [smN]
    by_cases e : n = w
    · subst e
      rw [smN_zero n (fun i hi => z i (by omega) (by omega))]; omega
    · rw [smN_one n (by omega) (fun i hi ne => z i (by omega) ne), z n (by omega) e]; omega
theorem smN_front (f : Nat → Nat) : ∀ n, smN f (n + 1) = f 0 + smN (fun j => f (j + 1)) n
  | 0 => by simp [smN]
  | n + 1 => by
    rw [smN, smN_front f n, smN]; omega
theorem smN_tail {f : Nat → Nat} {P : Nat} (h : ∀ i, P ≤ i → f i = 0) : ∀ e, smN f (P + e) = smN f P
  | 0 => rfl
  | e + 1 => by
    show smN f (P + e) + f (P + e) = smN f P
    rw [smN_tail h e, h (P + e) (by omega)]; rfl
theorem cnt_smN (p : Nat → Bool) : ∀ n, cnt p n = smN (fun i => if p i then 1 else 0) n
  | 0 => rfl
  | n + 1 => by rw [cnt, smN, cnt_smN p n]
theorem trL_len (h : Nat → Int32) (P : Nat) (rec : Int32 → List Nat) (y : Int32) : ∀ q i, (trL h P rec y q i).length = smN (fun j => if i + j < P ∧ h (i + j) = y then 1 + (rec (nI (i + j))).length else 0) q
  | 0, _ => rfl
  | q + 1, i => by
    rw [smN_front, trL]
    have e : smN (fun j => if i + (j + 1) < P ∧ h (i + (j + 1)) = y then 1 + (rec (nI (i + (j + 1)))).length else 0) q = smN (fun j => if i + 1 + j < P ∧ h (i + 1 + j) = y then 1 + (rec (nI (i + 1 + j))).length else 0) q :=
      sN_cg q (fun j _ => by rw [show i + (j + 1) = i + 1 + j by omega])
    rw [e, ← trL_len h P rec y q (i + 1)]
    show _ = (if i < P ∧ h i = y then 1 + (rec (nI i)).length else 0) + _
    by_cases hc : i < P ∧ h i = y
    · rw [if_pos hc, if_pos hc, List.length_cons, List.length_append]; omega
    · rw [if_neg hc, if_neg hc]; omega
theorem trF_len {P : Nat} (hP : P ≤ 7) (h : Nat → Int32) (f : Nat) (y : Int32) : (trF h P (f + 1) y).length = smN (fun j => if h j = y then 1 + (trF h P f (nI j)).length else 0) P := by
  rw [trF, trL_len]
  obtain ⟨e, he⟩ : ∃ e, 7 = P + e := ⟨7 - P, by omega⟩
  rw [he, smN_tail (fun i hi => by rw [if_neg (by omega)])]
  exact sN_cg P (fun j hj => by simp only [Nat.zero_add, hj, true_and])
section
variable {P n : Nat} {k t l h a : Nat → Int32} {d : Int32} {vS vS' : Nat → Nat → Int32} {vF vF' : Nat → Nat → Nat → Int32} {D D' : Nat → Nat} {mi mi' : Nat → Int32} {ma ma' : Nat → Nat → Int32}
variable {gi : Nat → Int32} {gl : Nat → Int64} {ga : Nat → Nat → Int32} {sN : Nat → Int32} {sF : Nat → Nat → Int32} {ml : Nat → Int64}
theorem OKV.nine (o : OKV P k t h a D) {x : Nat} (hx : x < P) : h x = 9 ↔ D x = 1 := by
  have h7 := o.1
  rcases o.2.2.2.1 x hx with ⟨h1, h2⟩ | ⟨h1, h2⟩ | ⟨y, hy, h1, h2, h3⟩
  · rw [h1, h2]; decide
  · rw [h1, h2]; decide
  · rw [h1]
    constructor
    · intro q; exact absurd q (nI_ne9 (by omega)).2
    · omega
theorem OKV.hang1 (o : OKV P k t h a D) {x y : Nat} (hx : x < P) (hy : y < P) (e : h x = nI y) : 1 ≤ D y ∧ D x = D y + 1 := by
  have h7 := o.1
  rcases o.2.2.2.1 x hx with ⟨h1, h2⟩ | ⟨h1, h2⟩ | ⟨w, hw, h1, h2, h3⟩
  · rw [h1] at e; exact absurd e.symm (nI_ne9 (by omega)).1
  · rw [h1] at e; exact absurd e.symm (nI_ne9 (by omega)).2
  · have : w = y := (nI_eq (by omega) (by omega)).mp (h1.symm.trans e)
    subst this; exact ⟨h2, h3⟩
theorem lvl (o : OKV P k t h a D) {d : Nat} (hd : 1 ≤ d) (g : Nat → Nat) : smN (fun y => if D y = d then smN (fun x => if h x = nI y then g x else 0) P else 0) P = smN (fun x => if D x = d + 1 then g x else 0) P := by
  have h7 := o.1
  have e1 : smN (fun y => if D y = d then smN (fun x => if h x = nI y then g x else 0) P else 0) P = smN (fun y => smN (fun x => if D y = d ∧ h x = nI y then g x else 0) P) P := by
    refine sN_cg P (fun y hy => ?_)
    by_cases e : D y = d
    · rw [if_pos e]; exact sN_cg P (fun x hx => by simp only [e, true_and])
    · rw [if_neg e]; exact (smN_zero P (fun x hx => by rw [if_neg (fun q => e q.1)])).symm
  rw [e1, smN_swap]
  refine sN_cg P (fun x hx => ?_)
  by_cases e : D x = d + 1
  · rw [if_pos e]
    obtain ⟨w, hw, h1, h2, h3⟩ : ∃ y, y < P ∧ h x = nI y ∧ 1 ≤ D y ∧ D x = D y + 1 := by
      rcases o.2.2.2.1 x hx with ⟨h1, h2⟩ | ⟨h1, h2⟩ | q
      · omega
      · omega
      · exact q
    rw [smN_one (w := w) P hw (fun i hi ne => ?_), if_pos ⟨by omega, h1⟩]
    rw [if_neg]
    intro q
    exact ne ((nI_eq (by omega) (by omega)).mp (q.2.symm.trans h1))
  · rw [if_neg e]
    refine smN_zero P (fun y hy => ?_)
    rw [if_neg]
    intro q
    have := o.hang1 hx hy q.2
    omega
theorem lenT (o : OKV P k t h a D) : ∀ f d, f + d = 7 → 1 ≤ d → smN (fun y => if D y = d then (trF h P f (nI y)).length else 0) P = smN (fun x => if d < D x then 1 else 0) P := by
  have h7 := o.1
  intro f
  induction f with
  | zero =>
    intro d hd _
    rw [smN_zero P (fun y hy => by rw [trF]; simp), smN_zero P (fun x hx => by have := o.d7 hx; rw [if_neg (by omega)])]
  | succ f ih =>
    intro d hd hd1
    have e1 : smN (fun y => if D y = d then (trF h P (f + 1) (nI y)).length else 0) P = smN (fun y => if D y = d then smN (fun x => if h x = nI y then (fun x => 1 + (trF h P f (nI x)).length) x else 0) P else 0) P :=
      sN_cg P (fun y hy => by rw [trF_len h7])
    rw [e1, lvl o hd1 (fun x => 1 + (trF h P f (nI x)).length)]
    have e2 : smN (fun x => if D x = d + 1 then 1 + (trF h P f (nI x)).length else 0) P = smN (fun x => (if D x = d + 1 then 1 else 0) + (if D x = d + 1 then (trF h P f (nI x)).length else 0)) P :=
      sN_cg P (fun x hx => by split <;> omega)
    rw [e2, sN_ad, ih (d + 1) (by omega) (by omega), ← sN_ad]
    refine sN_cg P (fun x hx => ?_)
    by_cases q1 : D x = d + 1
    · rw [if_pos q1, if_neg (by omega), if_pos (by omega)]
    · rw [if_neg q1]
      by_cases q2 : d + 1 < D x
      · rw [if_pos q2, if_pos (by omega)]
      · rw [if_neg q2, if_neg (by omega)]
theorem lenAll (o : OKV P k t h a D) : (trF h P 7 9).length = cnt (stk D) P := by
  have h7 := o.1
  have e2 : smN (fun j => if h j = 9 then 1 + (trF h P 6 (nI j)).length else 0) P = smN (fun x => (if D x = 1 then 1 else 0) + (if D x = 1 then (trF h P 6 (nI x)).length else 0)) P := by
    refine sN_cg P (fun x hx => ?_)
    by_cases e : D x = 1
    · rw [if_pos ((o.nine hx).mpr e), if_pos e, if_pos e]
    · rw [if_neg (fun q => e ((o.nine hx).mp q)), if_neg e, if_neg e]
  rw [show (7 : Nat) = 6 + 1 from rfl, trF_len h7, e2, sN_ad, lenT o 6 1 (by omega) (by omega), ← sN_ad, cnt_smN]
  refine sN_cg P (fun x hx => ?_)
  unfold stk
  by_cases q0 : D x = 0
  · simp [q0]
  · by_cases q1 : D x = 1
    · simp [q1]
    · rw [if_neg q1, if_pos (by omega)]; simp [q0]
theorem st_train (R : Rel gi gl ga vS vF sN sF mi ml ma) (x : Int32) : ∃ r sN' sF' mi' ma', X8_train vS vF x sN sF = some (r, sN', sF') ∧ X9_train x mi ma = some (r, mi', ma') ∧ Rel gi gl ga vS vF sN' sF' mi' ml ma' := by
  rcases row_cases x with ⟨r, hr, rfl, h1, h2⟩ | ⟨h1, h2⟩
  · obtain ⟨P, k, t, l, h, a, d, D, c, m, o, -⟩ := R.2.2.2.view
    have h7 := o.1
    have hlen := lenAll o
    have hc7 : cnt (stk D) P ≤ 7 := Nat.le_trans (cnt_le _ _) h7
    have hL : (trF h P 7 9).length ≤ 7 := by omega
    refine ⟨nI (trF h P 7 9).length, va_up sN r (nI (trF h P 7 9).length), va_up sF r (wl (fb_put (sF r) (fun _ => 0) 0 40) 0 (trF h P 7 9)), mi, va_up (va_up ma 10 (upd (ma 10) r (nI (trF h P 7 9).length))) 11 (wl (fb_put (ma 11) (fun _ => 0) (40 * r) 40) (40 * r + 0) (trF h P 7 9)), ?_, ?_, ?_⟩
    · rw [X8_train, h1, Option.bind_some, if_neg one_ne, gd_nI hr (by omega), cl_nI (by omega)]
      rw [show X6_layOut r 0 0 sN sF = _ from layOutC (j := r) (n := 0) (by omega) 0 sN sF, bd2_some, sL40 hr, gd_nI hr (by omega)]
      have key := addC c o hr 0 7 9 (by omega) (by omega) 9 0 (va_up sN r (nI 0)) (va_up sF r (fb_put (sF r) (fun _ => 0) 0 40)) nine_ne (up_at _ _ _) (by omega)
      rw [show X8_addHangers vS vF r 9 9 0 (va_up sN r (nI 0)) (va_up sF r (fb_put (sF r) (fun _ => 0) 0 40)) = _ from key, bd2_some, gd_nI hr (by omega), up_up, up_up, up_at, up_at, Nat.zero_add]
    · have m2 : MV P k t l h a d mi (va_up (va_up ma 10 (upd (ma 10) r (nI (trF h P 7 9).length))) 11 (fb_put (ma 11) (fun _ => 0) (40 * r) 40)) := m
      have key := (walkM (mi := mi) (l := l) (d := d) o hr hL 6).2 9 9 (fun j hj e => ⟨by have := (o.nine hj).mp e; omega, by have := (o.nine hj).mp e; omega, if_pos e⟩) 7 0 0 (500 - (trF h P 7 9).length) _ (by omega) m2 (by show 0 + (trF h P 7 9).length ≤ _; omega)
      rw [show trL h P (trF h P 6) 9 7 0 = trF h P 7 9 from rfl, show (trF h P 7 9).length + (500 - (trF h P 7 9).length) = 500 by omega, up_at, up_up, Nat.zero_add] at key
      have fin : X9_train_47 (500 - (trF h P 7 9).length) (nI r) (nI (trF h P 7 9).length) 9 (nI (trF h P 7 9).length) mi (va_up (va_up ma 10 (upd (ma 10) r (nI (trF h P 7 9).length))) 11 (wl (fb_put (ma 11) (fun _ => 0) (40 * r) 40) (40 * r + 0) (trF h P 7 9))) = some (nI (trF h P 7 9).length, mi, va_up (va_up ma 10 (upd (ma 10) r (nI (trF h P 7 9).length))) 11 (wl (fb_put (ma 11) (fun _ => 0) (40 * r) 40) (40 * r + 0) (trF h P 7 9))) := by
        obtain ⟨q, hq⟩ : ∃ q, 500 - (trF h P 7 9).length = q + 1 := ⟨500 - (trF h P 7 9).length - 1, by omega⟩
        rw [hq, X9_train_47, if_pos (nI_le (Nat.le_refl _) (by omega))]
      rw [fin] at key
      rw [X9_train, h2, Option.bind_some, if_neg one_ne, stuckSetM m o, Option.bind_some, bitsStuckM o, Option.bind_some, ← hlen, rowM hr (by omega), bd3_some, hangSetM m2 o, Option.bind_some]
      rcases low_first h7 (fun j => decide (h j = 9)) (show 0 ≤ P by omega) with ⟨f1, f2⟩ | ⟨u, u1, u2, u3, u4, u5, u6⟩
      · have e9 : fst9 P h 9 0 9 = 9 := by rw [fst9, f1]
        rw [e9] at key
        have l0 : (trF h P 7 9).length = 0 := by
          rw [show (7 : Nat) = 6 + 1 from rfl, trF_len h7]
          refine smN_zero P (fun j hj => ?_)
          have := (firstF_none _ _).mp f1 j (by omega) (by omega)
          rw [if_neg (by simpa using this)]
        rw [if_pos (by rw [l0]; rfl)]
        exact key
      · have e9 : fst9 P h 9 0 9 = nI u := by rw [fst9, u4]
        rw [e9] at key
        have e := bset_ge0 (P := P) (HS h 9)
        have lo : X9_lowest (nI (bset (HS h 9) P)) = some (nI u) := by rw [← e]; exact u6
        have ln : (trF h P 7 9).length ≠ 0 := by
          rw [hlen]; intro q
          have := cnt_0.mp q u u1
          have d1 := (o.nine u1).mp (by simpa using u3)
          rw [stk, d1] at this; simp at this
        rw [if_neg (nI_ne0 (by omega) (by omega)), lo, Option.bind_some]
        exact key
    · refine ⟨RR_set R.1 hr (Or.inr ⟨_, by omega, rfl⟩) rfl (fun i hi => ?_) (fun q hq => ?_), RT_row R.2.1 hr rfl rfl, R.2.2.1, R.2.2.2⟩
      · show wl (fb_put (sF r) (fun _ => 0) 0 40) 0 (trF h P 7 9) i = wl (fb_put (ma 11) (fun _ => 0) (40 * r) 40) (40 * r + 0) (trF h P 7 9) (40 * r + i)
        refine wl_sh _ (40 * r) _ _ 0 (fun z hz => ?_) i hi
        rw [fb_put_in (by omega) (by omega), fb_put_in (by omega) (by omega)]
      · show wl (fb_put (ma 11) (fun _ => 0) (40 * r) 40) (40 * r + 0) (trF h P 7 9) q = ma 11 q
        rw [wl_out _ _ _ _ (by omega), fb_put_out hq]
  · refine ⟨-1, sN, sF, mi, ma, ?_, ?_, R⟩
    · rw [X8_train, h1, Option.bind_some, if_pos rfl]
    · rw [X9_train, h2, Option.bind_some, if_pos rfl]
end
