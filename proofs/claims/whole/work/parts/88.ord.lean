theorem cfb_Cf (P : Nat) (h : Nat → Int32) (D : Nat → Nat) : Cf (cfb P h D) := by
  intro z s _ q
  unfold cfb at q
  simp only [Bool.and_eq_true, Bool.not_eq_true'] at q
  exact q.2.2.1
theorem cfb_P {P : Nat} {h : Nat → Int32} {D : Nat → Nat} {z s : Nat} (q : cfb P h D z s = true) : z < P ∧ D z ≠ 0 := by
  unfold cfb at q
  simp only [Bool.and_eq_true, decide_eq_true_eq] at q
  exact ⟨q.1, q.2.1⟩
theorem cfb_S (P : Nat) (h : Nat → Int32) (D : Nat → Nat) (z : Nat) : cfb P h D z (bset (stk D) P) = false := by
  cases e : cfb P h D z (bset (stk D) P) with
  | false => rfl
  | true =>
    obtain ⟨q1, q2⟩ := cfb_P e
    have : (bset (stk D) P).testBit z = true := by rw [bset_bit]; simp [q1, stk, q2]
    unfold cfb at e
    rw [this] at e
    simp at e
theorem cfb_out {P : Nat} {h : Nat → Int32} {D : Nat → Nat} {z s : Nat} (hz : P ≤ z) : cfb P h D z s = false := by
  cases e : cfb P h D z s with
  | false => rfl
  | true => have := (cfb_P e).1; omega
def tb (T : Nat → Nat) (G : Nat → Int32) : Nat → Int32 := fun s => if s < 128 then nI (T s) else G s
theorem tb_in {T : Nat → Nat} {G : Nat → Int32} {s : Nat} (h : s < 128) : tb T G s = nI (T s) := if_pos h
theorem tb_upd {T T' : Nat → Nat} {G : Nat → Int32} {s : Nat} (h : s < 128) (e : ∀ r, r ≠ s → T' r = T r) : upd (tb T G) s (nI (T' s)) = tb T' G := by
  funext r; unfold upd tb
  by_cases q : r = s
  · rw [if_pos q, q, if_pos h]
  · rw [if_neg q, e r q]
def tC (B : Nat → Nat) (n : Nat) (G : Nat → Int32) : Nat → Int32 := fun s => if n ≤ s ∧ s < 128 then nI (B s) else G s
theorem tC_in {B : Nat → Nat} {n : Nat} {G : Nat → Int32} {s : Nat} (h : n ≤ s) (h2 : s < 128) : tC B n G s = nI (B s) := if_pos ⟨h, h2⟩
theorem tC_upd {B : Nat → Nat} {n : Nat} {G : Nat → Int32} (h : n < 128) : upd (tC B (n + 1) G) n (nI (B n)) = tC B n G := by
  funext r; unfold upd tC
  by_cases q : r = n
  · rw [if_pos q, q, if_pos ⟨Nat.le_refl _, h⟩]
  · rw [if_neg q]
    by_cases k : n ≤ r ∧ r < 128
    · rw [if_pos ⟨by omega, k.2⟩, if_pos k]
    · rw [if_neg (fun w => k ⟨by omega, w.2⟩), if_neg k]
section
variable {P n : Nat} {k t l h a : Nat → Int32} {d : Int32} {vS : Nat → Nat → Int32} {vF : Nat → Nat → Nat → Int32} {D : Nat → Nat} {mi : Nat → Int32} {ma : Nat → Nat → Int32}
variable {gi : Nat → Int32} {gl : Nat → Int64} {ga : Nat → Nat → Int32} {sN : Nat → Int32} {sF : Nat → Nat → Int32} {ml : Nat → Int64}
theorem canFollowC (o : OKV P k t h a D) (e2 : gi 2 = nI (bset (stk D) P)) (e1 : ∀ x, x < P → ga 1 x = h x) {x s : Nat} (hx : x < 7) (hs : s < 128) : X3_canFollow gi ga (nI x) (nI s) = some (if cfb P h D x s then 1 else 0) := by
  have h7 := o.1
  rw [X3_canFollow, e2, sh_bit _ (bset_lt7 h7) x hx, bset_bit, sh_bit s hs x hx, gd_nI hx (by omega), cl_nI (by omega)]
  unfold cfb stk
  by_cases q1 : x < P
  · by_cases q2 : D x = 0
    · simp [q2]
    · rw [e1 x q1]
      cases q3 : s.testBit x with
      | true => simp [q1, q2]
      | false =>
        rcases o.2.2.2.1 x q1 with ⟨h1, h2⟩ | ⟨h1, h2⟩ | ⟨y, hy, h1, h2, h3⟩
        · omega
        · rw [h1]; simp [q1, q2]
        · have n1 : ¬ nI y = 9 := (nI_ne9 (by omega)).2
          have n2 : ¬ nI y < 0 := nI_pos (by omega)
          have n3 : ¬ (7 : Int32) ≤ nI y := (nI_ge (show y < 7 by omega) (by omega) : ¬ nI 7 ≤ nI y)
          rw [h1, if_neg n1, if_neg n2, if_neg n3, sh_bit s hs y (by omega), cl_nI (by omega)]
          cases s.testBit y <;> simp [q1, q2, n1]
  · simp [q1]
theorem look57 (o : OKV P k t h a D) (e2 : gi 2 = nI (bset (stk D) P)) (e1 : ∀ x, x < P → ga 1 x = h x) (T : Nat → Nat) (G : Nat → Int32) {n : Nat} (hn : n < 128) (k48 : Int32 → (Nat → Int32) → (Nat → Nat → Int32) → Option ((Nat → Int32) × (Nat → Nat → Int32))) :
    X3_look_57 vS vF k48 500 (nI n) 0 gi (va_up ga 2 (tb T G)) = k48 (nI (n + 1)) gi (va_up ga 2 (tb (Tz (cfb P h D) T n 7) G)) := by
  have hc := cfb_Cf P h D
  have key : ∀ q z f, z + q = 7 → q < f → X3_look_57 vS vF k48 f (nI n) (nI z) gi (va_up ga 2 (tb (Tz (cfb P h D) T n z) G)) = k48 (nI (n + 1)) gi (va_up ga 2 (tb (Tz (cfb P h D) T n 7) G)) := by
    intro q
    induction q with
    | zero =>
      intro z f g1 g2
      obtain ⟨f, rfl⟩ : ∃ z, f = z + 1 := ⟨f - 1, by omega⟩
      have : z = 7 := by omega
      subst this
      rw [X3_look_57, if_pos (show (7 : Int32) ≤ nI 7 by decide), nI_1]
    | succ q ih =>
      intro z f g1 g2
      obtain ⟨f, rfl⟩ : ∃ z, f = z + 1 := ⟨f - 1, by omega⟩
      have hz : z < 7 := by omega
      have e := ih (z + 1) f (by omega) (by omega)
      rw [X3_look_57, if_neg (show ¬ (7 : Int32) ≤ nI z from (nI_ge hz (by omega) : ¬ nI 7 ≤ nI z)), canFollowC (ga := va_up ga 2 (tb (Tz (cfb P h D) T n z) G)) o e2 e1 hz hn, Option.bind_some, nI_1]
      by_cases c : cfb P h D z n = true
      · have lt := or_lt7 hn hz
        have hb := hc z n hz c
        have ne : n ||| 2 ^ z ≠ n := by rw [or_add n hn z hz hb]; have := Nat.two_pow_pos z; omega
        rw [if_pos c, if_neg one_ne, withC n hn z hz, Option.bind_some, gd_nI lt (by omega), gd_nI hn (by omega), gd_nI lt (by omega), lt_, cl_nI (by omega), cl_nI (by omega), up_at, tb_in lt, tb_in hn, nI_add, up_up, Tz_n hc hn (by omega) (Nat.le_refl _)]
        have e3 : Tz (cfb P h D) T n z (n ||| 2 ^ z) + T n = Tz (cfb P h D) T n (z + 1) (n ||| 2 ^ z) := by
          rw [Tz_s, if_pos ⟨c, rfl⟩]
        rw [e3, tb_upd lt (fun r hr => by rw [Tz_s, if_neg (fun w => hr w.2.symm), Nat.add_zero])]
        exact e
      · rw [if_neg c, if_pos rfl]
        have e3 : Tz (cfb P h D) T n (z + 1) = Tz (cfb P h D) T n z := by
          funext r; rw [Tz_s, if_neg (fun w => c w.1), Nat.add_zero]
        rw [e3] at e
        exact e
  have := key 7 0 500 (by omega) (by omega)
  have e0 : Tz (cfb P h D) T n 0 = T := by funext r; unfold Tz; rw [smN]; omega
  rw [e0] at this
  exact this
theorem look48 (o : OKV P k t h a D) (e2 : gi 2 = nI (bset (stk D) P)) (e1 : ∀ x, x < P → ga 1 x = h x) (G : Nat → Int32) : X3_look_48 vS vF 500 0 gi (va_up ga 2 (tb (TT (cfb P h D) 0) G)) = X3_look_106 vS vF 500 127 gi (va_up ga 2 (tb (BF (cfb P h D)) G)) := by
  have key : ∀ q n f, n + q = 128 → q < f → X3_look_48 vS vF f (nI n) gi (va_up ga 2 (tb (TT (cfb P h D) n) G)) = X3_look_106 vS vF 500 127 gi (va_up ga 2 (tb (BF (cfb P h D)) G)) := by
    intro q
    induction q with
    | zero =>
      intro n f g1 g2
      obtain ⟨f, rfl⟩ : ∃ z, f = z + 1 := ⟨f - 1, by omega⟩
      have : n = 128 := by omega
      subst this
      rw [X3_look_48, if_pos (show (128 : Int32) ≤ nI 128 by decide)]
      rfl
    | succ q ih =>
      intro n f g1 g2
      obtain ⟨f, rfl⟩ : ∃ z, f = z + 1 := ⟨f - 1, by omega⟩
      rw [X3_look_48, if_neg (show ¬ (128 : Int32) ≤ nI n from (nI_ge (show n < 128 by omega) (by omega) : ¬ nI 128 ≤ nI n)), look57 o e2 e1 _ G (by omega)]
      exact ih (n + 1) f (by omega) (by omega)
  exact key 128 0 500 (by omega) (by omega)
theorem look131 (o : OKV P k t h a D) (e2 : gi 2 = nI (bset (stk D) P)) (e1 : ∀ x, x < P → ga 1 x = h x) (G : Nat → Int32) {n : Nat} (hn : n < 128) (k106 : Int32 → (Nat → Int32) → (Nat → Nat → Int32) → Option ((Nat → Int32) × (Nat → Nat → Int32))) :
    X3_look_131 vS vF k106 500 (nI n) 0 gi (va_up ga 3 (upd (tC (BH (cfb P h D) (bset (stk D) P)) (n + 1) G) n (nI (one_ (n = bset (stk D) P))))) = k106 (nI n + -1) gi (va_up ga 3 (tC (BH (cfb P h D) (bset (stk D) P)) n G)) := by
  have hc := cfb_Cf P h D
  have key : ∀ q z f, z + q = 7 → q < f → X3_look_131 vS vF k106 f (nI n) (nI z) gi (va_up ga 3 (upd (tC (BH (cfb P h D) (bset (stk D) P)) (n + 1) G) n (nI (one_ (n = bset (stk D) P) + smN (fun z => if cfb P h D z n then BH (cfb P h D) (bset (stk D) P) (n ||| 2 ^ z) else 0) z)))) = k106 (nI n + -1) gi (va_up ga 3 (tC (BH (cfb P h D) (bset (stk D) P)) n G)) := by
    intro q
    induction q with
    | zero =>
      intro z f g1 g2
      obtain ⟨f, rfl⟩ : ∃ z, f = z + 1 := ⟨f - 1, by omega⟩
      have : z = 7 := by omega
      subst this
      rw [X3_look_131, if_pos (show (7 : Int32) ≤ nI 7 by decide), ← BH_eq hc hn, tC_upd hn]
    | succ q ih =>
      intro z f g1 g2
      obtain ⟨f, rfl⟩ : ∃ z, f = z + 1 := ⟨f - 1, by omega⟩
      have hz : z < 7 := by omega
      have e := ih (z + 1) f (by omega) (by omega)
      rw [smN] at e
      rw [X3_look_131, if_neg (show ¬ (7 : Int32) ≤ nI z from (nI_ge hz (by omega) : ¬ nI 7 ≤ nI z)), canFollowC (ga := va_up ga 3 _) o e2 e1 hz hn, Option.bind_some, nI_1]
      by_cases c : cfb P h D z n = true
      · have lt := or_lt7 hn hz
        have hb := hc z n hz c
        have ad := or_add n hn z hz hb
        have p2 := Nat.two_pow_pos z
        rw [if_pos c] at e ⊢
        rw [if_neg one_ne, withC n hn z hz, Option.bind_some, gd_nI hn (by omega), gd_nI lt (by omega), gd_nI hn (by omega), lt_, cl_nI (by omega), cl_nI (by omega), up_at, upd_at, upd_ne _ _ (show n ||| 2 ^ z ≠ n by omega), tC_in (by omega) lt, nI_add, up_up, fa_upd_twice, Nat.add_assoc]
        exact e
      · rw [if_neg c] at e ⊢
        rw [if_pos rfl]
        rw [Nat.add_zero] at e
        exact e
  exact key 7 0 500 (by omega) (by omega)
theorem look106 (o : OKV P k t h a D) (e2 : gi 2 = nI (bset (stk D) P)) (e1 : ∀ x, x < P → ga 1 x = h x) (G : Nat → Int32) : ∀ m f, m < 128 → m + 1 < f → X3_look_106 vS vF f (nI m) gi (va_up ga 3 (tC (BH (cfb P h D) (bset (stk D) P)) (m + 1) G)) = some (gi, va_up ga 3 (tC (BH (cfb P h D) (bset (stk D) P)) 0 G)) := by
  have lS := bset_lt7 (p := stk D) o.1
  have step : ∀ m f, m < 128 → X3_look_106 vS vF (f + 1) (nI m) gi (va_up ga 3 (tC (BH (cfb P h D) (bset (stk D) P)) (m + 1) G)) = X3_look_106 vS vF f (nI m + -1) gi (va_up ga 3 (tC (BH (cfb P h D) (bset (stk D) P)) m G)) := by
    intro m f hm
    rw [X3_look_106, if_neg (nI_pos (by omega)), e2, gd_nI hm (by omega), gd_nI hm (by omega), lt_, lt_, cl_nI (by omega), up_at, up_up, up_up]
    have e := look131 (vS := vS) (vF := vF) o e2 e1 G hm (X3_look_106 vS vF f)
    by_cases q : m = bset (stk D) P
    · rw [one_, if_pos q] at e
      rw [if_pos (by rw [q])]; exact e
    · rw [one_, if_neg q] at e
      rw [if_neg (fun w => q ((nI_eq (by omega) (by omega)).mp w))]; exact e
  intro m
  induction m with
  | zero =>
    intro f h1 h2
    obtain ⟨f, rfl⟩ : ∃ z, f = z + 2 := ⟨f - 2, by omega⟩
    rw [step 0 (f + 1) h1, X3_look_106, if_pos (by decide)]
  | succ m ih =>
    intro f h1 h2
    obtain ⟨f, rfl⟩ : ∃ z, f = z + 1 := ⟨f - 1, by omega⟩
    rw [step (m + 1) f h1, nI_m1 (by omega) (by omega), show m + 1 - 1 = m by omega]
    exact ih f (by omega) (by omega)
theorem fillG2 (v : Int32) (ga : Nat → Nat → Int32) : J7_fill_53178_g2 v ga = some (va_up ga 2 (fb_put (ga 2) (fun _ => v) 0 128)) := by
  rw [J7_fill_53178_g2]
  have key := lu4 J7_fill_53178_g2_5 (fun _ => v) nI (fun _ => Int32.ofNat 128) (fun i => va_up ga 2 (fb_put (ga 2) (fun _ => v) 0 i)) 128 (some (va_up ga 2 (fb_put (ga 2) (fun _ => v) 0 128))) ?_ ?_ 0 500 (by omega) (by omega)
  · rw [fb_put_0, up_id] at key; exact key
  · intro n i hi
    rw [J7_fill_53178_g2_5, show Int32.ofNat 128 = nI 128 from rfl, if_neg (nI_ge hi (by omega)), gd_nI hi (by omega), lt_, cl_nI (by omega), nI_1, up_at, up_up]
    have e := fb_put_succ (ga 2) (fun _ => v) 0 i
    rw [Nat.zero_add] at e
    rw [e]
  · intro n
    rw [J7_fill_53178_g2_5, show Int32.ofNat 128 = nI 128 from rfl, if_pos (nI_le (Nat.le_refl _) (by omega))]
theorem fillG3 (v : Int32) (ga : Nat → Nat → Int32) : J7_fill_53178_g3 v ga = some (va_up ga 3 (fb_put (ga 3) (fun _ => v) 0 128)) := by
  rw [J7_fill_53178_g3]
  have key := lu4 J7_fill_53178_g3_5 (fun _ => v) nI (fun _ => Int32.ofNat 128) (fun i => va_up ga 3 (fb_put (ga 3) (fun _ => v) 0 i)) 128 (some (va_up ga 3 (fb_put (ga 3) (fun _ => v) 0 128))) ?_ ?_ 0 500 (by omega) (by omega)
  · rw [fb_put_0, up_id] at key; exact key
  · intro n i hi
    rw [J7_fill_53178_g3_5, show Int32.ofNat 128 = nI 128 from rfl, if_neg (nI_ge hi (by omega)), gd_nI hi (by omega), lt_, cl_nI (by omega), nI_1, up_at, up_up]
    have e := fb_put_succ (ga 3) (fun _ => v) 0 i
    rw [Nat.zero_add] at e
    rw [e]
  · intro n
    rw [J7_fill_53178_g3_5, show Int32.ofNat 128 = nI 128 from rfl, if_pos (nI_le (Nat.le_refl _) (by omega))]
/-- what a look at a village leaves -/
def LK (P : Nat) (h : Nat → Int32) (D : Nat → Nat) (ga ga' : Nat → Nat → Int32) : Prop := (∀ x, x < P → ga' 1 x = h x) ∧ (∀ s, s < 128 → ga' 2 s = nI (BF (cfb P h D) s)) ∧ (∀ s, s < 128 → ga' 3 s = nI (BH (cfb P h D) (bset (stk D) P) s)) ∧ ga' 4 = ga 4
theorem lookC (c : CV P k t l h a d vS vF) (o : OKV P k t h a D) (gi : Nat → Int32) (ga : Nat → Nat → Int32) : ∃ ga', X3_look vS vF gi ga = some (va_up gi 2 (nI (bset (stk D) P)), ga') ∧ LK P h D ga ga' := by
  have h7 := o.1
  rw [X3_look, stuckSetC c o, Option.bind_some, lt_, gd_t (by decide), lt_, fillG2, Option.bind_some, fillG3, Option.bind_some, gd_t (by decide), lt_]
  have e1 : ∀ A B C : Nat → Int32, ∀ x, x < P → (va_up (va_up (va_up (va_up ga 1 (va_cpy (vF 0 4) (ga 1) 0 0 7)) 2 A) 3 B) 2 C) 1 x = h x := by
    intro A B C x hx
    rw [up_ne _ _ (show 1 ≠ 2 by omega), up_ne _ _ (show 1 ≠ 3 by omega), up_ne _ _ (show 1 ≠ 2 by omega), up_at, va_cpy, if_pos ⟨by omega, by omega⟩, show 0 + (x - 0) = x by omega]
    exact (c.2.2 x hx).2.2.2.1
  have eA : upd (fb_put (ga 2) (fun _ => 0) 0 128) 0 1 = tb (TT (cfb P h D) 0) (ga 2) := by
    funext s; unfold upd tb
    show _ = if s < 128 then nI (one_ (s = 0)) else ga 2 s
    by_cases q : s = 0
    · rw [if_pos q, if_pos (by omega), one_, if_pos q]; rfl
    · rw [if_neg q, one_, if_neg q]
      by_cases q2 : s < 128
      · rw [if_pos q2, fb_put_in (by omega) (by omega)]; rfl
      · rw [if_neg q2, fb_put_out (by omega)]
  have eB : fb_put (ga 3) (fun _ => (0 : Int32)) 0 128 = tC (BH (cfb P h D) (bset (stk D) P)) 128 (fb_put (ga 3) (fun _ => 0) 0 128) := by
    funext s; unfold tC; rw [if_neg (by omega)]
  have r1 := look48 (vS := vS) (vF := vF) (gi := va_up gi 2 (nI (bset (stk D) P))) (ga := va_up (va_up (va_up (va_up ga 1 (va_cpy (vF 0 4) (ga 1) 0 0 7)) 2 (fb_put (ga 2) (fun _ => 0) 0 128)) 3 (fb_put (ga 3) (fun _ => 0) 0 128)) 2 (ga 2)) o (up_at _ _ _) (e1 _ _ _) (ga 2)
  rw [up_up] at r1
  have r2 := look106 (vS := vS) (vF := vF) (gi := va_up gi 2 (nI (bset (stk D) P))) (ga := va_up (va_up (va_up (va_up ga 1 (va_cpy (vF 0 4) (ga 1) 0 0 7)) 2 (fb_put (ga 2) (fun _ => 0) 0 128)) 3 (fb_put (ga 3) (fun _ => 0) 0 128)) 2 (tb (BF (cfb P h D)) (ga 2))) o (up_at _ _ _) (e1 _ _ _) (fb_put (ga 3) (fun _ => 0) 0 128) 127 500 (by omega) (by omega)
  rw [← eB] at r2
  have e3 : va_up (va_up (va_up (va_up (va_up ga 1 (va_cpy (vF 0 4) (ga 1) 0 0 7)) 2 (fb_put (ga 2) (fun _ => 0) 0 128)) 3 (fb_put (ga 3) (fun _ => 0) 0 128)) 2 (tb (BF (cfb P h D)) (ga 2))) 3 (fb_put (ga 3) (fun _ => 0) 0 128) = va_up (va_up (va_up (va_up ga 1 (va_cpy (vF 0 4) (ga 1) 0 0 7)) 2 (fb_put (ga 2) (fun _ => 0) 0 128)) 3 (fb_put (ga 3) (fun _ => 0) 0 128)) 2 (tb (BF (cfb P h D)) (ga 2)) := by
    have : fb_put (ga 3) (fun _ => (0 : Int32)) 0 128 = va_up (va_up (va_up (va_up ga 1 (va_cpy (vF 0 4) (ga 1) 0 0 7)) 2 (fb_put (ga 2) (fun _ => 0) 0 128)) 3 (fb_put (ga 3) (fun _ => 0) 0 128)) 2 (tb (BF (cfb P h D)) (ga 2)) 3 := by
      rw [up_ne _ _ (show 3 ≠ 2 by omega), up_at]
    exact (congrArg (va_up _ 3) this).trans (up_id _ 3)
  rw [e3] at r2
  refine ⟨va_up (va_up (va_up (va_up (va_up ga 1 (va_cpy (vF 0 4) (ga 1) 0 0 7)) 2 (fb_put (ga 2) (fun _ => 0) 0 128)) 3 (fb_put (ga 3) (fun _ => 0) 0 128)) 2 (tb (BF (cfb P h D)) (ga 2))) 3 (tC (BH (cfb P h D) (bset (stk D) P)) 0 (fb_put (ga 3) (fun _ => 0) 0 128)), ?_, ?_⟩
  · show X3_look_48 vS vF 500 0 (va_up gi 2 (nI (bset (stk D) P))) (va_up (va_up (va_up (va_up ga 1 (va_cpy (vF 0 4) (ga 1) 0 0 7)) 2 (fb_put (ga 2) (fun _ => 0) 0 128)) 3 (fb_put (ga 3) (fun _ => 0) 0 128)) 2 (upd (fb_put (ga 2) (fun _ => 0) 0 128) 0 1)) = _
    rw [eA, r1, up_up, show (127 : Int32) = nI 127 from rfl, r2]
  · refine ⟨fun x hx => ?_, fun s hs => ?_, fun s hs => ?_, ?_⟩
    · rw [up_ne _ _ (show 1 ≠ 3 by omega)]; exact e1 _ _ _ x hx
    · rw [up_ne _ _ (show 2 ≠ 3 by omega), up_at, tb_in hs]
    · rw [up_at, tC_in (by omega) hs]
    · rfl
end
