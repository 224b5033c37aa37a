theorem bd2_some {α β γ : Type} (a : α) (b : β) (k : α → β → Option γ) : bd2 (some (a, b)) k = k a b := rfl
theorem bd3_some {α β γ δ : Type} (a : α) (b : β) (c : γ) (k : α → β → γ → Option δ) : bd3 (some (a, b, c)) k = k a b c := rfl
theorem u2_at {α : Type} (f : Nat → Nat → α) (a b : Nat) (x : α) : u2 f a b x a b = x := by simp [u2]
theorem u2_n1 {α : Type} (f : Nat → Nat → α) {a i : Nat} (b : Nat) (x : α) (h : i ≠ a) : u2 f a b x i = f i := by funext j; simp [u2, h]
theorem u2_n2 {α : Type} (f : Nat → Nat → α) {b j : Nat} (a i : Nat) (x : α) (h : j ≠ b) : u2 f a b x i j = f i j := by simp [u2, h]
theorem u2_u2 {α : Type} (f : Nat → Nat → α) (a b : Nat) (x y : α) : u2 (u2 f a b x) a b y = u2 f a b y := by
  funext i j; unfold u2; (repeat' split) <;> rfl
theorem u2_self {α : Type} (f : Nat → Nat → α) (a b : Nat) : u2 f a b (f a b) = f := by
  funext i j; unfold u2; split
  · rename_i e; split
    · rename_i e2; rw [e, e2]
    · rfl
  · rfl
theorem fillV4 (v : Int32) (vF : Nat → Nat → Nat → Int32) : J7_fill_53178_v4 v vF = some (u2 vF 0 4 (fb_put (vF 0 4) (fun _ => v) 0 7)) := by
  rw [J7_fill_53178_v4]
  have key := lu4 J7_fill_53178_v4_5 (fun _ => v) nI (fun _ => Int32.ofNat 7) (fun i => u2 vF 0 4 (fb_put (vF 0 4) (fun _ => v) 0 i)) 7 (some (u2 vF 0 4 (fb_put (vF 0 4) (fun _ => v) 0 7))) ?_ ?_ 0 500 (by omega) (by omega)
  · rw [fb_put_0, u2_self] at key; exact key
  · intro n i hi
    rw [J7_fill_53178_v4_5, show Int32.ofNat 7 = nI 7 from rfl, if_neg (nI_ge hi (by omega)), gd_nI hi (by omega), lt_, cl_nI (by omega), nI_1, u2_at, u2_u2]
    have e := fb_put_succ (vF 0 4) (fun _ => v) 0 i
    rw [Nat.zero_add] at e
    rw [e]
  · intro n
    rw [J7_fill_53178_v4_5, show Int32.ofNat 7 = nI 7 from rfl, if_pos (nI_le (Nat.le_refl _) (by omega))]
theorem fillV5 (v : Int32) (vF : Nat → Nat → Nat → Int32) : J7_fill_53178_v5 v vF = some (u2 vF 0 5 (fb_put (vF 0 5) (fun _ => v) 0 7)) := by
  rw [J7_fill_53178_v5]
  have key := lu4 J7_fill_53178_v5_5 (fun _ => v) nI (fun _ => Int32.ofNat 7) (fun i => u2 vF 0 5 (fb_put (vF 0 5) (fun _ => v) 0 i)) 7 (some (u2 vF 0 5 (fb_put (vF 0 5) (fun _ => v) 0 7))) ?_ ?_ 0 500 (by omega) (by omega)
  · rw [fb_put_0, u2_self] at key; exact key
  · intro n i hi
    rw [J7_fill_53178_v5_5, show Int32.ofNat 7 = nI 7 from rfl, if_neg (nI_ge hi (by omega)), gd_nI hi (by omega), lt_, cl_nI (by omega), nI_1, u2_at, u2_u2]
    have e := fb_put_succ (vF 0 5) (fun _ => v) 0 i
    rw [Nat.zero_add] at e
    rw [e]
  · intro n
    rw [J7_fill_53178_v5_5, show Int32.ofNat 7 = nI 7 from rfl, if_pos (nI_le (Nat.le_refl _) (by omega))]
theorem freeAllC (vF : Nat → Nat → Nat → Int32) : X7_freeAll vF = some (u2 (u2 vF 0 4 (fb_put (vF 0 4) (fun _ => -9) 0 7)) 0 5 (fb_put (vF 0 5) (fun _ => -9) 0 7)) := by
  rw [X7_freeAll, fillV4, Option.bind_some, fillV5, Option.bind_some, u2_n2 vF _ _ _ (show 5 ≠ 4 by omega)]
/-- what a DEED makes of a village -/
def DRv (P : Nat) (s w hh y : Int32) (h a l : Nat → Int32) (d : Int32) (h' a' l' : Nat → Int32) (d' : Int32) : Prop :=
  (s = 2 ∧ d' = d + w ∧ ∀ x, x < P → l' x = l x ∧ h' x = h x ∧ a' x = a x) ∨
    (∃ z, z < P ∧ w = nI z ∧ s = 1 ∧ d' = d ∧ ∀ x, x < P → l' x = (if x = z then d else l x) ∧ h' x = -9 ∧ a' x = -9) ∨
    (∃ z, z < P ∧ w = nI z ∧ s = 0 ∧ d' = d ∧ ∀ x, x < P → l' x = l x ∧ h' x = (if x = z then y else h x) ∧ a' x = (if x = z then hh else a x))
/-- a village after some DEEDS -/
def CSt (P : Nat) (h a l : Nat → Int32) (d : Int32) (S : Nat → Int32) (F : Nat → Nat → Int32) : Prop := S 0 = nI P ∧ S 1 = d ∧ ∀ x, x < P → F 3 x = l x ∧ F 4 x = h x ∧ F 5 x = a x
section
variable {P : Nat} {k t l h a l' h' a' : Nat → Int32} {d d' : Int32} {vS : Nat → Nat → Int32} {vF : Nat → Nat → Nat → Int32} {D : Nat → Nat} {mi : Nat → Int32} {ma : Nat → Nat → Int32}
variable {gi : Nat → Int32} {gl : Nat → Int64} {ga : Nat → Nat → Int32} {sN : Nat → Int32} {sF : Nat → Nat → Int32} {ml : Nat → Int64}
theorem workC (h7 : P ≤ 7) {j : Nat} (hj : j < 60) (c : CSt P h a l d (vS 0) (vF 0)) (r : DRv P (vF 0 6 j) (vF 0 7 j) (vF 0 8 j) (vF 0 9 j) h a l d h' a' l' d') :
    ∃ vS' vF', X7_workDeed (nI j) vS vF = some (vS', vF') ∧ CSt P h' a' l' d' (vS' 0) (vF' 0) ∧ (∀ q, q ≠ 0 → vS' q = vS q ∧ vF' q = vF q) ∧ vS' 0 2 = vS 0 2 ∧ ∀ q, q ≠ 3 → q ≠ 4 → q ≠ 5 → vF' 0 q = vF 0 q := by
  obtain ⟨c0, c1, cx⟩ := c
  rw [X7_workDeed, if_neg (nI_pos (by omega)), show (60 : Int32) = nI 60 from rfl, if_pos (nI_lt hj (by omega)), gd_nI hj (by omega), gd_nI hj (by omega), cl_nI (by omega)]
  rcases r with ⟨s2, e1, ex⟩ | ⟨z, hz, ez, s1, e1, ex⟩ | ⟨z, hz, ez, s0, e1, ex⟩
  · rw [if_pos s2]
    refine ⟨u2 vS 0 1 (vS 0 1 + vF 0 7 j), vF, rfl, ⟨?_, ?_, fun x hx => ?_⟩, fun q hq => ⟨u2_n1 vS _ _ hq, rfl⟩, ?_, fun q _ _ _ => rfl⟩
    · rw [u2_n2 vS _ _ _ (by omega), c0]
    · rw [u2_at, c1, e1]
    · rw [(ex x hx).1, (ex x hx).2.1, (ex x hx).2.2]; exact cx x hx
    · rw [u2_n2 vS _ _ _ (by omega)]
  · rw [if_neg (by rw [s1]; decide), ez, isPersonC1 c0 h7 hz, Option.bind_some, if_neg one_ne, gd_nI hj (by omega), if_pos s1, gd_nI (by omega) (by omega), cl_nI (by omega), lt_, freeAllC, Option.bind_some, u2_n2 vF _ _ _ (show 4 ≠ 3 by omega), u2_n2 vF _ _ _ (show 5 ≠ 3 by omega)]
    refine ⟨vS, _, rfl, ⟨c0, by rw [c1, e1], fun x hx => ⟨?_, ?_, ?_⟩⟩, fun q hq => ⟨rfl, ?_⟩, rfl, fun q h3 h4 h5 => ?_⟩
    · rw [u2_n2 _ _ _ _ (show 3 ≠ 5 by omega), u2_n2 _ _ _ _ (show 3 ≠ 4 by omega), u2_at, (ex x hx).1, upd, c1, (cx x hx).1]
    · rw [u2_n2 _ _ _ _ (show 4 ≠ 5 by omega), u2_at, fb_put_in (by omega) (by omega), (ex x hx).2.1]
    · rw [u2_at, fb_put_in (by omega) (by omega), (ex x hx).2.2]
    · rw [u2_n1 _ _ _ hq, u2_n1 _ _ _ hq, u2_n1 _ _ _ hq]
    · rw [u2_n2 _ _ _ _ h5, u2_n2 _ _ _ _ h4, u2_n2 _ _ _ _ h3]
  · have h76 : X7_workDeed_76 (nI j) (nI z) vS vF = some (vS, u2 (u2 vF 0 4 (upd (vF 0 4) z (vF 0 9 j))) 0 5 (upd (vF 0 5) z (vF 0 8 j))) := by
      rw [X7_workDeed_76, isPersonC1 c0 h7 hz, Option.bind_some, if_neg one_ne, gd_nI hj (by omega), gd_nI (by omega) (by omega), cl_nI (by omega), cl_nI (by omega), lt_, gd_nI hj (by omega), gd_nI (by omega) (by omega), lt_, u2_n2 vF _ _ _ (show 5 ≠ 4 by omega), u2_n2 vF _ _ _ (show 8 ≠ 4 by omega)]
    rw [if_neg (by rw [s0]; decide), ez, isPersonC1 c0 h7 hz, Option.bind_some, if_neg one_ne, gd_nI hj (by omega), if_neg (by rw [s0]; decide), h76]
    refine ⟨vS, _, rfl, ⟨c0, by rw [c1, e1], fun x hx => ⟨?_, ?_, ?_⟩⟩, fun q hq => ⟨rfl, ?_⟩, rfl, fun q h3 h4 h5 => ?_⟩
    · rw [u2_n2 _ _ _ _ (show 3 ≠ 5 by omega), u2_n2 _ _ _ _ (show 3 ≠ 4 by omega), (ex x hx).1, (cx x hx).1]
    · rw [u2_n2 _ _ _ _ (show 4 ≠ 5 by omega), u2_at, (ex x hx).2.1, upd, (cx x hx).2.1]
    · rw [u2_at, (ex x hx).2.2, upd, (cx x hx).2.2]
    · rw [u2_n1 _ _ _ hq, u2_n1 _ _ _ hq]
    · rw [u2_n2 _ _ _ _ h5, u2_n2 _ _ _ _ h4]
/-- one more step of a history -/
def ext {α : Type} (f : Nat → α) (n : Nat) (v : α) : Nat → α := fun i => if i ≤ n then f i else v
theorem ext_le {α : Type} {f : Nat → α} {n i : Nat} {v : α} (hi : i ≤ n) : ext f n v i = f i := if_pos hi
theorem ext_s {α : Type} {f : Nat → α} {n : Nat} {v : α} : ext f n v (n + 1) = v := if_neg (by omega)
theorem doDeedC {n : Nat} {hH hA hL : Nat → Nat → Int32} {hD : Nat → Int32} (h7 : P ≤ 7) (hn : n < 60) (vw : VW P n k t hH hA hL hD (vS 0) (vF 0)) {s w hh y : Int32} (r : DRv P s w hh y (hH n) (hA n) (hL n) (hD n) h' a' l' d') :
    ∃ vS' vF', X7_doDeed s w hh y vS vF = some (vS', vF') ∧ VW P (n + 1) k t (ext hH n h') (ext hA n a') (ext hL n l') (ext hD n d') (vS' 0) (vF' 0) ∧ (∀ q, q ≠ 0 → vS' q = vS q ∧ vF' q = vF q) := by
  obtain ⟨v0, v1, v2, vx, vi, vd⟩ := vw
  generalize hG : u2 (u2 (u2 (u2 vF 0 6 (upd (vF 0 6) n s)) 0 7 (upd (vF 0 7) n w)) 0 8 (upd (vF 0 8) n hh)) 0 9 (upd (vF 0 9) n y) = G
  have gq : ∀ q, q ≠ 0 → G q = vF q := fun q hq => by rw [← hG, u2_n1 _ _ _ hq, u2_n1 _ _ _ hq, u2_n1 _ _ _ hq, u2_n1 _ _ _ hq]
  have g6 : G 0 6 = upd (vF 0 6) n s := by rw [← hG, u2_n2 _ _ _ _ (by omega), u2_n2 _ _ _ _ (by omega), u2_n2 _ _ _ _ (by omega), u2_at]
  have g7 : G 0 7 = upd (vF 0 7) n w := by rw [← hG, u2_n2 _ _ _ _ (by omega), u2_n2 _ _ _ _ (by omega), u2_at]
  have g8 : G 0 8 = upd (vF 0 8) n hh := by rw [← hG, u2_n2 _ _ _ _ (by omega), u2_at]
  have g9 : G 0 9 = upd (vF 0 9) n y := by rw [← hG, u2_at]
  have gr : ∀ r, r < 6 → G 0 r = vF 0 r := fun r hr => by rw [← hG, u2_n2 _ _ _ _ (by omega), u2_n2 _ _ _ _ (by omega), u2_n2 _ _ _ _ (by omega), u2_n2 _ _ _ _ (by omega)]
  have un : ∀ (f : Nat → Int32) (v : Int32), upd f n v n = v := fun f v => if_pos rfl
  have ul : ∀ (f : Nat → Int32) (v : Int32) {i : Nat}, i < n → upd f n v i = f i := fun f v i hi => if_neg (by omega)
  obtain ⟨vS', vF', e, ⟨c0, c1, cx⟩, fq, f2, fr⟩ := workC (vS := vS) (vF := G) (h := hH n) (a := hA n) (l := hL n) (d := hD n) h7 hn ⟨v0, v1, fun x hx => by rw [gr 3 (by omega), gr 4 (by omega), gr 5 (by omega)]; exact (vx x hx).2.2⟩ (by rw [g6, g7, g8, g9, un, un, un, un]; exact r)
  refine ⟨u2 vS' 0 2 (vS' 0 2 + 1), vF', ?_, ⟨?_, ?_, ?_, fun x hx => ⟨?_, ?_, ?_⟩, ⟨?_, fun x hx => ?_⟩, fun i hi => ?_⟩, fun q hq => ⟨?_, ?_⟩⟩
  · rw [X7_doDeed, v2, if_neg (nI_pos (by omega)), show (60 : Int32) = nI 60 from rfl, if_pos (nI_lt hn (by omega)), gd_nI hn (by omega), cl_nI (by omega), lt_, gd_nI hn (by omega), lt_, gd_nI hn (by omega), lt_, gd_nI hn (by omega), lt_, u2_n2 vF _ _ _ (show 7 ≠ 6 by omega), u2_n2 _ _ _ _ (show 8 ≠ 7 by omega), u2_n2 vF _ _ _ (show 8 ≠ 6 by omega), u2_n2 _ _ _ _ (show 9 ≠ 8 by omega), u2_n2 _ _ _ _ (show 9 ≠ 7 by omega), u2_n2 vF _ _ _ (show 9 ≠ 6 by omega), hG, e]; rfl
  · rw [u2_n2 _ _ _ _ (by omega), c0]
  · rw [u2_n2 _ _ _ _ (by omega), c1, ext_s]
  · rw [u2_at, f2, v2, nI_1]
  · rw [fr 0 (by omega) (by omega) (by omega), gr 0 (by omega)]; exact (vx x hx).1
  · rw [fr 1 (by omega) (by omega) (by omega), gr 1 (by omega)]; exact (vx x hx).2.1
  · rw [ext_s, ext_s, ext_s]; exact cx x hx
  · rw [ext_le (by omega)]; exact vi.1
  · rw [ext_le (by omega), ext_le (by omega), ext_le (by omega), fr 2 (by omega) (by omega) (by omega), gr 2 (by omega)]; exact vi.2 x hx
  · rw [fr 6 (by omega) (by omega) (by omega), fr 7 (by omega) (by omega) (by omega), fr 8 (by omega) (by omega) (by omega), fr 9 (by omega) (by omega) (by omega), g6, g7, g8, g9]
    rcases Nat.lt_or_ge i n with q | q
    · rw [ul _ _ q, ul _ _ q, ul _ _ q, ul _ _ q, ext_le (by omega), ext_le (by omega), ext_le (by omega), ext_le (by omega), ext_le (by omega), ext_le (by omega), ext_le (by omega), ext_le (by omega)]
      exact vd i q
    · have : i = n := by omega
      subst this
      rw [un, un, un, un, ext_s, ext_s, ext_s, ext_s, ext_le (by omega), ext_le (by omega), ext_le (by omega), ext_le (by omega)]
      exact r
  · rw [u2_n1 _ _ _ hq, (fq q hq).1]
  · rw [(fq q hq).2, gq q hq]
theorem goBackC {n j : Nat} {hH hA hL : Nat → Nat → Int32} {hD : Nat → Int32} (h7 : P ≤ 7) (hn : n ≤ 60) (hj : j ≤ n) (vw : VW P n k t hH hA hL hD (vS 0) (vF 0)) :
    ∃ vS' vF', X7_goBackTo (nI j) vS vF = some (vS', vF') ∧ VW P j k t hH hA hL hD (vS' 0) (vF' 0) ∧ (∀ q, q ≠ 0 → vS' q = vS q ∧ vF' q = vF q) := by
  obtain ⟨v0, v1, v2, vx, vi, vd⟩ := vw
  have key : ∀ m i n0 vS1 vF1, i + m = j → m < n0 → CSt P (hH i) (hA i) (hL i) (hD i) (vS1 0) (vF1 0) → (∀ q, q ≠ 0 → vS1 q = vS q ∧ vF1 q = vF q) → (∀ q, q ≠ 3 → q ≠ 4 → q ≠ 5 → vF1 0 q = vF 0 q) →
      ∃ vS' vF', X7_goBackTo_6 n0 (nI j) (nI i) vS1 vF1 = some (vS', vF') ∧ VW P j k t hH hA hL hD (vS' 0) (vF' 0) ∧ (∀ q, q ≠ 0 → vS' q = vS q ∧ vF' q = vF q) := by
    intro m
    induction m with
    | zero =>
      intro i n0 vS1 vF1 e1 e2 c fq fr
      obtain ⟨n0, rfl⟩ : ∃ z, n0 = z + 1 := ⟨n0 - 1, by omega⟩
      have : i = j := by omega
      subst this
      obtain ⟨c0, c1, cx⟩ := c
      rw [X7_goBackTo_6, if_pos (nI_le (Nat.le_refl _) (by omega)), lt_]
      refine ⟨_, _, rfl, ⟨?_, ?_, ?_, fun x hx => ⟨?_, ?_, cx x hx⟩, ⟨vi.1, fun x hx => ?_⟩, fun d hd => ?_⟩, fun q hq => ⟨?_, (fq q hq).2⟩⟩
      · rw [u2_n2 _ _ _ _ (by omega), c0]
      · rw [u2_n2 _ _ _ _ (by omega), c1]
      · rw [u2_at]
      · rw [fr 0 (by omega) (by omega) (by omega)]; exact (vx x hx).1
      · rw [fr 1 (by omega) (by omega) (by omega)]; exact (vx x hx).2.1
      · rw [fr 2 (by omega) (by omega) (by omega)]; exact vi.2 x hx
      · rw [fr 6 (by omega) (by omega) (by omega), fr 7 (by omega) (by omega) (by omega), fr 8 (by omega) (by omega) (by omega), fr 9 (by omega) (by omega) (by omega)]
        exact vd d (by omega)
      · rw [u2_n1 _ _ _ hq, (fq q hq).1]
    | succ m ih =>
      intro i n0 vS1 vF1 e1 e2 c fq fr
      obtain ⟨n0, rfl⟩ : ∃ z, n0 = z + 1 := ⟨n0 - 1, by omega⟩
      obtain ⟨vS2, vF2, e, c', fq2, f2, fr2⟩ := workC (vS := vS1) (vF := vF1) (j := i) (h' := hH (i + 1)) (a' := hA (i + 1)) (l' := hL (i + 1)) (d' := hD (i + 1)) h7 (by omega) c (by rw [fr 6 (by omega) (by omega) (by omega), fr 7 (by omega) (by omega) (by omega), fr 8 (by omega) (by omega) (by omega), fr 9 (by omega) (by omega) (by omega)]; exact vd i (by omega))
      rw [X7_goBackTo_6, if_neg (nI_ge (by omega) (by omega)), e, bd2_some, nI_1]
      exact ih (i + 1) n0 vS2 vF2 (by omega) (by omega) c' (fun q hq => ⟨by rw [(fq2 q hq).1, (fq q hq).1], by rw [(fq2 q hq).2, (fq q hq).2]⟩) (fun q h3 h4 h5 => by rw [fr2 q h3 h4 h5, fr q h3 h4 h5])
  have hst : X7_startAnew vS vF = some (u2 (u2 vS 0 1 0) 0 2 0, u2 (u2 (u2 vF 0 3 (va_cpy (vF 0 2) (vF 0 3) 0 0 7)) 0 4 (fb_put (vF 0 4) (fun _ => -9) 0 7)) 0 5 (fb_put (vF 0 5) (fun _ => -9) 0 7)) := by
    rw [X7_startAnew, lt_, lt_, gd_t (by decide), lt_, freeAllC, Option.bind_some, u2_n2 vF _ _ _ (show 4 ≠ 3 by omega), u2_n2 vF _ _ _ (show 5 ≠ 3 by omega)]; rfl
  rw [X7_goBackTo, hst, bd2_some]
  refine key j 0 500 _ _ (by omega) (by omega) ⟨?_, ?_, fun x hx => ⟨?_, ?_, ?_⟩⟩ (fun q hq => ⟨?_, ?_⟩) (fun q h3 h4 h5 => ?_)
  · show u2 (u2 vS 0 1 0) 0 2 0 0 0 = _
    rw [u2_n2 _ _ _ _ (by omega), u2_n2 _ _ _ _ (by omega), v0]
  · show u2 (u2 vS 0 1 0) 0 2 0 0 1 = _
    rw [u2_n2 _ _ _ _ (by omega), u2_at, vi.1]
  · rw [u2_n2 _ _ _ _ (by omega), u2_n2 _ _ _ _ (by omega), u2_at, va_cpy, if_pos ⟨by omega, by omega⟩, (vi.2 x hx).1]; simp
  · rw [u2_n2 _ _ _ _ (by omega), u2_at, fb_put_in (by omega) (by omega), (vi.2 x hx).2.1]
  · rw [u2_at, fb_put_in (by omega) (by omega), (vi.2 x hx).2.2]
  · show u2 (u2 vS 0 1 0) 0 2 0 q = _
    rw [u2_n1 _ _ _ hq, u2_n1 _ _ _ hq]
  · rw [u2_n1 _ _ _ hq, u2_n1 _ _ _ hq, u2_n1 _ _ _ hq]
  · rw [u2_n2 _ _ _ _ h5, u2_n2 _ _ _ _ h4, u2_n2 _ _ _ _ h3]
end
