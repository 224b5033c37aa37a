section
variable {P : Nat} {k t l h a : Nat → Int32} {d : Int32} {vS : Nat → Nat → Int32} {vF : Nat → Nat → Nat → Int32} {D : Nat → Nat} {mi : Nat → Int32} {ma : Nat → Nat → Int32}
variable {gi : Nat → Int32} {gl : Nat → Int64} {ga : Nat → Nat → Int32} {sN : Nat → Int32} {sF : Nat → Nat → Int32} {ml : Nat → Int64}
/-- one and all between that one and THE GOOSE -/
def ch (h : Nat → Int32) (D : Nat → Nat) (x : Nat) : Nat := chn h (D x) x
theorem ch_lt (o : OKV P k t h a D) {x : Nat} (hx : x < P) : ch h D x < 128 := chn_lt o _ x hx rfl
theorem ch_0 {x : Nat} (hd : D x = 0) : ch h D x = 0 := by rw [ch, hd, chn]
theorem ch_9 {x : Nat} (hd : D x = 1) : ch h D x = 2 ^ x := by rw [ch, hd, chn, chn, Nat.or_zero]
theorem ch_s (o : OKV P k t h a D) {x y : Nat} (hy : y < P) (e : h x = nI y) (hd : D x = D y + 1) : ch h D x = 2 ^ x ||| ch h D y := by
  have h7 := o.1
  rw [ch, hd, chn, e, cl_nI (by omega), ch]
theorem ch_self (o : OKV P k t h a D) {x : Nat} (hd : D x ≠ 0) : (ch h D x).testBit x = true := by
  obtain ⟨m, hm⟩ : ∃ m, D x = m + 1 := ⟨D x - 1, by omega⟩
  rw [ch, hm, chn, Nat.testBit_or, Nat.testBit_two_pow]; simp
theorem ch_bit (o : OKV P k t h a D) {x z : Nat} (hx : x < P) (hz : (ch h D x).testBit z = true) : z < P ∧ 1 ≤ D z ∧ D z ≤ D x ∧ (z ≠ x → D z < D x) := chn_bit o _ x hx rfl z hz
theorem ch_not (o : OKV P k t h a D) {x y : Nat} (hy : y < P) (hn : x ≠ y) (hd : D y ≤ D x) : (ch h D y).testBit x = false := by
  cases q : (ch h D y).testBit x with
  | false => rfl
  | true => have := (ch_bit o hy q).2.2.2 hn; omega
theorem ch_inj (o : OKV P k t h a D) {x y : Nat} (hx : x < P) (hy : y < P) (dx : D x ≠ 0) (e : ch h D x = ch h D y) : x = y := by
  have px := chn_pc o _ x hx rfl
  have py := chn_pc o _ y hy rfl
  have ed : D x = D y := by rw [← px, ← py]; exact congrArg pcn e
  have b := ch_self o dx
  rw [e] at b
  by_cases q : x = y
  · exact q
  · have := (ch_bit o hy b).2.2.2 q; omega
/-- the last one that two have between them and THE GOOSE -/
def LC (P : Nat) (h : Nat → Int32) (D : Nat → Nat) (x y u : Nat) : Prop := u < P ∧ D u ≠ 0 ∧ ch h D u = ch h D x &&& ch h D y
theorem and_stepL (o : OKV P k t h a D) {x x' y : Nat} (hx' : x' < P) (hy : y < P) (e : h x = nI x') (hd : D x = D x' + 1) (hn : x ≠ y) (hle : D y ≤ D x) : ch h D x &&& ch h D y = ch h D x' &&& ch h D y := by
  apply Nat.eq_of_testBit_eq
  intro i
  rw [ch_s o hx' e hd, Nat.testBit_and, Nat.testBit_and, Nat.testBit_or, Nat.testBit_two_pow]
  by_cases q : x = i
  · subst q; rw [ch_not o hy hn hle]; simp
  · simp [q]
theorem LC_ex (o : OKV P k t h a D) : ∀ n x y, x < P → y < P → D x ≠ 0 → D y ≠ 0 → D x + D y ≤ n → ch h D x &&& ch h D y ≠ 0 → ∃ u, LC P h D x y u := by
  have h7 := o.1
  intro n
  induction n with
  | zero => intro x y _ _ dx _ hn _; omega
  | succ n ih =>
    intro x y hx hy dx dy hn hs
    by_cases e : x = y
    · subst e; exact ⟨x, hx, dx, by rw [Nat.and_self]⟩
    · rcases Nat.lt_or_ge (D x) (D y) with q | q
      · rcases o.2.2.2.1 y hy with ⟨h1, h2⟩ | ⟨h1, h2⟩ | ⟨w, hw, h1, h2, h3⟩
        · omega
        · omega
        · have es := and_stepL o hw hx h1 h3 (Ne.symm e) (by omega)
          rw [Nat.and_comm, es, Nat.and_comm] at hs
          obtain ⟨u, u1, u2, u3⟩ := ih x w hx hw dx (by omega) (by omega) hs
          exact ⟨u, u1, u2, by rw [u3, Nat.and_comm, ← es, Nat.and_comm]⟩
      · rcases o.2.2.2.1 x hx with ⟨h1, h2⟩ | ⟨h1, h2⟩ | ⟨w, hw, h1, h2, h3⟩
        · omega
        · exfalso; apply hs
          rw [ch_9 h2]
          exact (by rw [Nat.and_comm]; exact (fb_bit_nat _ x).mpr (ch_not o hy e q) : 2 ^ x &&& ch h D y = 0)
        · have es := and_stepL o hw hy h1 h3 e q
          rw [es] at hs
          obtain ⟨u, u1, u2, u3⟩ := ih w y hw hy (by omega) dy (by omega) hs
          exact ⟨u, u1, u2, by rw [u3, ← es]⟩
/-- all on the way; 0: there is none -/
def wy (P : Nat) (h : Nat → Int32) (D : Nat → Nat) (x y : Nat) : Nat := if ch h D x &&& ch h D y = 0 then 0 else match firstF (fun z => decide (ch h D z = ch h D x &&& ch h D y)) P 0 with
  | none => 0
  | some z => (ch h D x ^^^ ch h D y) ||| 2 ^ z
theorem firstF_some {p : Nat → Bool} : ∀ n i u, i ≤ u → u < i + n → p u = true → (∀ j, i ≤ j → j < i + n → p j = true → j = u) → firstF p n i = some u
  | 0, i, u, h1, h2, _, _ => by omega
  | n + 1, i, u, h1, h2, h3, h4 => by
    rw [firstF]
    by_cases q : p i = true
    · rw [if_pos q, h4 i (by omega) (by omega) q]
    · rw [if_neg q]
      refine firstF_some n (i + 1) u ?_ (by omega) h3 (fun j a1 a2 a3 => h4 j (by omega) (by omega) a3)
      rcases Nat.lt_or_ge i u with w | w
      · omega
      · have : i = u := by omega
        subst this; exact absurd h3 q
theorem LC_nz (o : OKV P k t h a D) {x y u : Nat} (u0 : LC P h D x y u) : ch h D x &&& ch h D y ≠ 0 := by
  intro q
  have := ch_self o u0.2.1
  rw [u0.2.2, q] at this; simp at this
theorem LC_first (o : OKV P k t h a D) {x y u : Nat} (u0 : LC P h D x y u) : firstF (fun z => decide (ch h D z = ch h D x &&& ch h D y)) P 0 = some u := by
  refine firstF_some P 0 u (by omega) (by have := u0.1; omega) (decide_eq_true u0.2.2) (fun j _ a2 a3 => ?_)
  have e : ch h D j = ch h D u := (of_decide_eq_true a3).trans u0.2.2.symm
  exact (ch_inj o u0.1 (by omega) u0.2.1 e.symm).symm
theorem wy_eq (o : OKV P k t h a D) {x y u : Nat} (u0 : LC P h D x y u) : wy P h D x y = (ch h D x ^^^ ch h D y) ||| 2 ^ u := by
  rw [wy, if_neg (LC_nz o u0), LC_first o u0]
theorem wy_0 {x y : Nat} (e : ch h D x &&& ch h D y = 0) : wy P h D x y = 0 := by rw [wy, if_pos e]
theorem LC_u (o : OKV P k t h a D) {x y u : Nat} (hx : x < P) (u0 : LC P h D x y u) : D u ≤ D x ∧ (ch h D x).testBit u = true ∧ (ch h D y).testBit u = true := by
  have := ch_self o u0.2.1
  rw [u0.2.2, Nat.testBit_and, Bool.and_eq_true] at this
  exact ⟨(ch_bit o hx this.1).2.2.1, this⟩
theorem wy_nz (o : OKV P k t h a D) {x y u : Nat} (u0 : LC P h D x y u) : wy P h D x y ≠ 0 := by
  rw [wy_eq o u0]
  intro q
  have := congrArg (fun z => z.testBit u) q
  simp [Nat.testBit_or, Nat.testBit_two_pow] at this
theorem xor_lt {x y : Nat} (hx : x < 128) (hy : y < 128) : x ^^^ y < 128 := Nat.xor_lt_two_pow (n := 7) hx hy
theorem wy_lt (o : OKV P k t h a D) {x y : Nat} (hx : x < P) (hy : y < P) (dx : D x ≠ 0) (dy : D y ≠ 0) : wy P h D x y < 128 := by
  by_cases q : ch h D x &&& ch h D y = 0
  · rw [wy_0 q]; omega
  · obtain ⟨u, u0⟩ := LC_ex o _ x y hx hy dx dy (Nat.le_refl _) q
    rw [wy_eq o u0]
    exact Nat.or_lt_two_pow (n := 7) (xor_lt (ch_lt o hx) (ch_lt o hy)) (p7 u (by have := u0.1; have := o.1; omega))
theorem wy_comm_bits (o : OKV P k t h a D) {x y : Nat} : ch h D x &&& ch h D y = ch h D y &&& ch h D x := Nat.and_comm _ _
theorem LC_symm {x y u : Nat} (u0 : LC P h D x y u) : LC P h D y x u := ⟨u0.1, u0.2.1, by rw [u0.2.2, Nat.and_comm]⟩
theorem wy_symm (o : OKV P k t h a D) {x y : Nat} (hx : x < P) (hy : y < P) (dx : D x ≠ 0) (dy : D y ≠ 0) : wy P h D x y = wy P h D y x := by
  by_cases q : ch h D x &&& ch h D y = 0
  · rw [wy_0 q, wy_0 (by rw [Nat.and_comm]; exact q)]
  · obtain ⟨u, u0⟩ := LC_ex o _ x y hx hy dx dy (Nat.le_refl _) q
    rw [wy_eq o u0, wy_eq o (LC_symm u0), Nat.xor_comm]
/-- a step up from the deeper end -/
theorem wy_step (o : OKV P k t h a D) {x x' y : Nat} (hx' : x' < P) (hy : y < P) (dy : D y ≠ 0) (dx' : D x' ≠ 0) (e : h x = nI x') (hd : D x = D x' + 1) (hn : x ≠ y) (hle : D y ≤ D x) : wy P h D x y = (if wy P h D x' y = 0 then 0 else 2 ^ x ||| wy P h D x' y) ∧ (wy P h D x' y).testBit x = false := by
  have es := and_stepL o hx' hy e hd hn hle
  by_cases q : ch h D x' &&& ch h D y = 0
  · rw [wy_0 (x := x') q, wy_0 (x := x) (es.trans q)]; simp
  · obtain ⟨u, u0⟩ := LC_ex o _ x' y hx' hy dx' dy (Nat.le_refl _) q
    have u1 : LC P h D x y u := ⟨u0.1, u0.2.1, by rw [u0.2.2, es]⟩
    have hu := LC_u o hx' u0
    have hxu : u ≠ x := fun z => by subst z; omega
    have n1 : (ch h D x').testBit x = false := ch_not o hx' (fun z => by subst z; omega) (by omega)
    have n2 : (ch h D y).testBit x = false := ch_not o hy hn hle
    refine ⟨?_, ?_⟩
    · rw [if_neg (wy_nz o u0), wy_eq o u0, wy_eq o u1, ch_s o hx' e hd]
      apply Nat.eq_of_testBit_eq
      intro i
      simp only [Nat.testBit_or, Nat.testBit_xor, Nat.testBit_two_pow]
      by_cases z : x = i
      · subst z; simp [n1, n2, hxu]
      · simp [z]
    · rw [wy_eq o u0]
      simp [Nat.testBit_or, Nat.testBit_xor, Nat.testBit_two_pow, n1, n2, hxu]
theorem wy_end (o : OKV P k t h a D) {x y : Nat} (hx : x < P) (hy : y < P) (dx : D x ≠ 0) (dy : D y ≠ 0) (hz : wy P h D x y ≠ 0) : (wy P h D x y).testBit y = true := by
  by_cases q : ch h D x &&& ch h D y = 0
  · exact absurd (wy_0 q) hz
  · obtain ⟨u, u0⟩ := LC_ex o _ x y hx hy dx dy (Nat.le_refl _) q
    rw [wy_eq o u0, Nat.testBit_or, Nat.testBit_xor, Nat.testBit_two_pow, ch_self o dy]
    cases b : (ch h D x).testBit y with
    | false => simp
    | true =>
      have hyu : (ch h D u).testBit y = true := by rw [u0.2.2, Nat.testBit_and, b, ch_self o dy]; rfl
      have h1 := (ch_bit o u0.1 hyu).2.2.1
      have h2 := LC_u o hy (LC_symm u0)
      have : u = y := by
        by_cases z : u = y
        · exact z
        · have := (ch_bit o hy h2.2.1).2.2.2 z; omega
      simp [this]
theorem wy_self (o : OKV P k t h a D) {x : Nat} (hx : x < P) (dx : D x ≠ 0) : wy P h D x x = 2 ^ x := by
  rw [wy_eq o ⟨hx, dx, (Nat.and_self _).symm⟩, Nat.xor_self, Nat.zero_or]
/-- by how many passings FOOD goes -/
def okp (k : Nat → Int32) (P s y : Nat) : Bool := allF (fun z => decide (z = y) || (!(s.testBit z) || decide (¬ k z = 1))) P 0
def psg (P : Nat) (k h : Nat → Int32) (D : Nat → Nat) (x y : Nat) : Option Nat := if wy P h D x y = 0 then none else if okp k P (wy P h D x y) y then some (pcn (wy P h D x y) - 1) else none
def psI (v : Int32) (q : Option Nat) : Int32 := match q with
  | none => v
  | some n => nI n
theorem wayC (c : CV P k t l h a d vS vF) (o : OKV P k t h a D) {x y : Nat} (hx : x < P) (hy : y < P) : X0_way vS vF (nI x) (nI y) = some (nI (wy P h D x y)) := by
  have h7 := o.1
  have hs : ch h D x &&& ch h D y < 128 := and_lt (ch_lt o hx)
  have key : ∀ q i n, i + q = P → q < n → X0_way_22 vS vF n (nI (ch h D x)) (nI (ch h D y)) (nI (ch h D x &&& ch h D y)) (nI i) = some (nI (if ch h D x &&& ch h D y = 0 then 0 else match firstF (fun z => decide (ch h D z = ch h D x &&& ch h D y)) q i with | none => 0 | some z => (ch h D x ^^^ ch h D y) ||| 2 ^ z)) := by
    intro q
    induction q with
    | zero =>
      intro i n e1 e2
      obtain ⟨n, rfl⟩ : ∃ z, n = z + 1 := ⟨n - 1, by omega⟩
      rw [X0_way_22, c.1, if_pos (nI_le (by omega) (by omega)), firstF]
      split <;> rfl
    | succ q ih =>
      intro i n e1 e2
      obtain ⟨n, rfl⟩ : ∃ z, n = z + 1 := ⟨n - 1, by omega⟩
      have hci := ch_lt o (show i < P by omega)
      have ec : X7_chain vS vF (nI i) = some (nI (ch h D i)) := chainC c o (by omega)
      rw [X0_way_22, c.1, if_neg (nI_ge (by omega) (by omega)), ec, Option.bind_some, nI_1, ih (i + 1) n (by omega) (by omega), firstF]
      have z0 : nI (ch h D x &&& ch h D y) = 0 ↔ ch h D x &&& ch h D y = 0 := nI_eq (b := 0) (by omega) (by omega)
      by_cases s0 : ch h D x &&& ch h D y = 0
      · rw [if_pos (z0.mpr s0), if_pos s0, if_pos s0]
      · rw [if_neg (fun w => s0 (z0.mp w)), if_neg s0, if_neg s0]
        by_cases q1 : ch h D i = ch h D x &&& ch h D y
        · rw [if_pos (by rw [q1]), if_pos (decide_eq_true q1), fb_xorI, or_bit _ (xor_lt (ch_lt o hx) (ch_lt o hy)) i (by omega)]
        · rw [if_neg (fun w => q1 ((nI_eq (by omega) (by omega)).mp w)), if_neg (by simp [q1])]
  have ex : X7_chain vS vF (nI x) = some (nI (ch h D x)) := chainC c o hx
  have ey : X7_chain vS vF (nI y) = some (nI (ch h D y)) := chainC c o hy
  rw [X0_way, ex, Option.bind_some, ey, Option.bind_some, fa_and]
  exact key P 0 500 (by omega) (by omega)
theorem passingsC (c : CV P k t l h a d vS vF) (o : OKV P k t h a D) {x y : Nat} (hx : x < P) (hy : y < P) : X0_passings vS vF (nI x) (nI y) = some (psI (-9) (psg P k h D x y)) := by
  have h7 := o.1
  have hwl : wy P h D x y < 128 := by
    by_cases dx : D x = 0
    · rw [wy_0 (by rw [ch_0 dx, Nat.zero_and])]; omega
    · by_cases dy : D y = 0
      · rw [wy_0 (by rw [ch_0 dy, Nat.and_zero])]; omega
      · exact wy_lt o hx hy dx dy
  rw [X0_passings, wayC c o hx hy, Option.bind_some, psg]
  have z0 : nI (wy P h D x y) = 0 ↔ wy P h D x y = 0 := nI_eq (b := 0) (by omega) (by omega)
  by_cases w0 : wy P h D x y = 0
  · rw [if_pos (z0.mpr w0), if_pos w0]; rfl
  · rw [if_neg (fun w => w0 (z0.mp w)), if_neg w0]
    generalize wy P h D x y = s at hwl w0 ⊢
    have pc1 : 1 ≤ pcn s := by
      have : ∀ s, s < 128 → s ≠ 0 → 1 ≤ pcn s := by decide +kernel
      exact this s hwl w0
    have key : ∀ q i n, i + q = P → q < n → X0_passings_17 vS vF n (nI y) (nI s) (nI i) = some (psI (-9) (if allF (fun z => decide (z = y) || (!(s.testBit z) || decide (¬ k z = 1))) q i then some (pcn s - 1) else none)) := by
      intro q
      induction q with
      | zero =>
        intro i n e1 e2
        obtain ⟨n, rfl⟩ : ∃ z, n = z + 1 := ⟨n - 1, by omega⟩
        rw [X0_passings_17, c.1, if_pos (nI_le (by omega) (by omega)), bitc s hwl, Option.bind_some, show (1 : Int32) = nI 1 from rfl, pk_sub pc1]; rfl
      | succ q ih =>
        intro i n e1 e2
        obtain ⟨n, rfl⟩ : ∃ z, n = z + 1 := ⟨n - 1, by omega⟩
        rw [X0_passings_17, c.1, if_neg (nI_ge (by omega) (by omega)), if_pos (rfl : (0 : Int32) = 0), if_neg one_ne, sh_bit s hwl i (by omega), gd_nI (by omega) (by omega), cl_nI (by omega), (c.2.2 i (by omega)).1, nI_1, ih (i + 1) n (by omega) (by omega), allF]
        by_cases e : i = y
        · rw [if_pos (by rw [e])]; simp [e]
        · rw [if_neg (fun w => e ((nI_eq (by omega) (by omega)).mp w))]
          cases hb : s.testBit i
          · rw [if_pos f0]; simp
          · rw [if_neg t1]
            by_cases e1 : k i = 1
            · simp [e, e1, psI]
            · simp [e, e1]
    exact key P 0 500 (by omega) (by omega)
end
