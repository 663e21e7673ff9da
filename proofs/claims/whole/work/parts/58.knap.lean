/-! CHOSEN: sums over chosen places; the key by which one choice is better than another -/
def smK (g : Nat → Int) (f : Nat → Bool) : Nat → Nat → Int
  | _, 0 => 0
  | i, m + 1 => (if f i = true then g i else 0) + smK g f (i + 1) m
def rhK (j : Nat) : Int := ((2 ^ (11 - j) : Nat) : Int)
def kpK (w c : Nat → Int) (j : Nat) : Int := w j * 100000000 - c j * 10000 + rhK j
theorem rhK_at (j : Nat) : rhK j = ((2 ^ (11 - j) : Nat) : Int) := rfl
theorem kpK_at (w c : Nat → Int) (j : Nat) : kpK w c j = w j * 100000000 - c j * 10000 + rhK j := rfl
theorem smK_0 (g : Nat → Int) (f : Nat → Bool) (i : Nat) : smK g f i 0 = 0 := rfl
theorem smK_s (g : Nat → Int) (f : Nat → Bool) (i m : Nat) : smK g f i (m + 1) = (if f i = true then g i else 0) + smK g f (i + 1) m := rfl
theorem smK_cong {g : Nat → Int} {f h : Nat → Bool} : ∀ (m i : Nat), (∀ j, i ≤ j → j < i + m → f j = h j) → smK g f i m = smK g h i m
  | 0, i, _ => rfl
  | m + 1, i, hh => by
    rw [smK_s, smK_s, hh i (Nat.le_refl _) (by omega), smK_cong m (i + 1) (fun j h1 h2 => hh j (by omega) (by omega))]
theorem smK_key (w c : Nat → Int) (f : Nat → Bool) : ∀ (m i : Nat), smK (kpK w c) f i m = smK w f i m * 100000000 - smK c f i m * 10000 + smK rhK f i m
  | 0, i => by
    rw [smK_0, smK_0, smK_0, smK_0]
    omega
  | m + 1, i => by
    have ih := smK_key w c f m (i + 1)
    rw [smK_s, smK_s, smK_s, smK_s]
    by_cases e : f i = true
    · rw [if_pos e, if_pos e, if_pos e, if_pos e, kpK_at]
      omega
    · rw [if_neg e, if_neg e, if_neg e, if_neg e]
      omega
theorem smK_rng {g : Nat → Int} {f : Nat → Bool} {b : Nat} : ∀ (m i : Nat), (∀ j, i ≤ j → j < i + m → 0 ≤ g j ∧ g j ≤ b) → 0 ≤ smK g f i m ∧ smK g f i m ≤ (b : Int) * (m : Int)
  | 0, i, _ => by
    rw [smK_0]
    omega
  | m + 1, i, h => by
    have ih := smK_rng (g := g) (f := f) (b := b) m (i + 1) (fun j h1 h2 => h j (by omega) (by omega))
    have hi := h i (Nat.le_refl _) (by omega)
    have e : (b : Int) * ((m + 1 : Nat) : Int) = (b : Int) * (m : Int) + b := by rw [Int.natCast_add, Int.mul_add]; omega
    rw [smK_s, e]
    by_cases e : f i = true
    · rw [if_pos e]; omega
    · rw [if_neg e]; omega
theorem smK_pos {g : Nat → Int} {f : Nat → Bool} : ∀ (m i : Nat), (∀ j, i ≤ j → j < i + m → 0 < g j) → (∃ j, i ≤ j ∧ j < i + m ∧ f j = true) → 0 < smK g f i m
  | 0, i, _, hx => by
    obtain ⟨j, h1, h2, -⟩ := hx
    omega
  | m + 1, i, h, hx => by
    obtain ⟨j, h1, h2, h3⟩ := hx
    have hi := h i (Nat.le_refl _) (by omega)
    have hn : 0 ≤ smK g f (i + 1) m := by
      have key : ∀ (m i : Nat), (∀ j, i ≤ j → j < i + m → 0 < g j) → 0 ≤ smK g f i m := by
        intro m
        induction m with
        | zero => intro i _; exact Int.le_refl _
        | succ m ih =>
          intro i hh
          have a := ih (i + 1) (fun j h1 h2 => hh j (by omega) (by omega))
          have b := hh i (Nat.le_refl _) (by omega)
          rw [smK_s]
          by_cases e : f i = true
          · rw [if_pos e]; omega
          · rw [if_neg e]; omega
      exact key m (i + 1) (fun j h1 h2 => h j (by omega) (by omega))
    rw [smK_s]
    by_cases e : f i = true
    · rw [if_pos e]; omega
    · rw [if_neg e]
      have hj : j ≠ i := fun g => e (by rw [← g]; exact h3)
      have := smK_pos (g := g) (f := f) m (i + 1) (fun j h1 h2 => h j (by omega) (by omega)) ⟨j, by omega, by omega, h3⟩
      omega
theorem rhK_rng (f : Nat → Bool) : ∀ (m i : Nat), i + m ≤ 12 → 0 ≤ smK rhK f i m ∧ smK rhK f i m < ((2 ^ (12 - i) : Nat) : Int)
  | 0, i, _ => by
    have h0 : 0 < 2 ^ (12 - i) := Nat.two_pow_pos _
    rw [smK_0]
    omega
  | m + 1, i, h => by
    have ih := rhK_rng f m (i + 1) (by omega)
    have e : 2 ^ (12 - i) = 2 ^ (11 - i) * 2 := by rw [← Nat.pow_succ]; congr 1; omega
    have e2 : 12 - (i + 1) = 11 - i := by omega
    have h0 : 0 < 2 ^ (11 - i) := Nat.two_pow_pos _
    rw [e2] at ih
    rw [smK_s, e, rhK_at]
    generalize 2 ^ (11 - i) = t at *
    by_cases g : f i = true
    · rw [if_pos g]; omega
    · rw [if_neg g]; omega
theorem rhK_le (i : Nat) : 1 ≤ rhK i ∧ rhK i ≤ 2048 := by
  have h0 : 0 < 2 ^ (11 - i) := Nat.two_pow_pos _
  have h1 : 2 ^ (11 - i) ≤ 2 ^ 11 := Nat.pow_le_pow_right (by omega) (by omega)
  have h2 : (2 : Nat) ^ 11 = 2048 := by decide
  rw [rhK_at]
  omega
theorem rhK_lt (f : Nat → Bool) {m i : Nat} (h : i + 1 + m ≤ 12) : 0 ≤ smK rhK f (i + 1) m ∧ smK rhK f (i + 1) m < rhK i := by
  have a := rhK_rng f m (i + 1) h
  rw [rhK_at, show 11 - i = 12 - (i + 1) by omega]
  exact a
theorem rhK_inj {f h : Nat → Bool} : ∀ (m i : Nat), i + m ≤ 12 → smK rhK f i m = smK rhK h i m → ∀ j, i ≤ j → j < i + m → f j = h j
  | 0, i, _, _, j, h1, h2 => by omega
  | m + 1, i, hm, e, j, h1, h2 => by
    have a := rhK_lt f (m := m) (i := i) (by omega)
    have b := rhK_lt h (m := m) (i := i) (by omega)
    rw [smK_s, smK_s] at e
    have hi : f i = h i := by
      cases c1 : f i with
      | true =>
        cases c2 : h i with
        | true => rfl
        | false =>
          rw [c1, c2, if_pos rfl, if_neg (by decide)] at e
          omega
      | false =>
        cases c2 : h i with
        | false => rfl
        | true =>
          rw [c1, c2, if_pos rfl, if_neg (by decide)] at e
          omega
    by_cases g : j = i
    · rw [g]; exact hi
    · rw [hi] at e
      exact rhK_inj m (i + 1) (by omega) (by omega) j (by omega) (by omega)
def mkK (nb : Nat → Nat) (f : Nat → Bool) (j : Nat) : Nat → Nat → Bool
  | _, 0 => false
  | i, m + 1 => (f i && decide (j = nb i)) || mkK nb f j (i + 1) m
theorem mkK_s (nb : Nat → Nat) (f : Nat → Bool) (j i m : Nat) : mkK nb f j i (m + 1) = ((f i && decide (j = nb i)) || mkK nb f j (i + 1) m) := rfl
theorem mkK_cong {nb : Nat → Nat} {f h : Nat → Bool} {j : Nat} : ∀ (m i : Nat), (∀ j, i ≤ j → j < i + m → f j = h j) → mkK nb f j i m = mkK nb h j i m
  | 0, i, _ => rfl
  | m + 1, i, hh => by
    rw [mkK_s, mkK_s, hh i (Nat.le_refl _) (by omega), mkK_cong m (i + 1) (fun j h1 h2 => hh j (by omega) (by omega))]
def upK (f : Nat → Bool) (i : Nat) (b : Bool) : Nat → Bool := fun j => if j = i then b else f j
theorem upK_i (f : Nat → Bool) (i : Nat) (b : Bool) : upK f i b i = b := by
  unfold upK
  rw [if_pos rfl]
theorem upK_o (f : Nat → Bool) (i : Nat) (b : Bool) {j : Nat} (h : j ≠ i) : upK f i b j = f j := by
  unfold upK
  rw [if_neg h]
theorem smK_up (g : Nat → Int) (f : Nat → Bool) (i m : Nat) (b : Bool) : smK g (upK f i b) i (m + 1) = (if b = true then g i else 0) + smK g f (i + 1) m := by
  rw [smK_s, upK_i, smK_cong (f := upK f i b) (h := f) m (i + 1) (fun j h1 h2 => upK_o f i b (by omega))]
theorem mkK_up (nb : Nat → Nat) (f : Nat → Bool) (j i m : Nat) (b : Bool) : mkK nb (upK f i b) j i (m + 1) = ((b && decide (j = nb i)) || mkK nb f j (i + 1) m) := by
  rw [mkK_s, upK_i, mkK_cong (f := upK f i b) (h := f) m (i + 1) (fun j h1 h2 => upK_o f i b (by omega))]
def OkK (w c : Nat → Int) (nb : Nat → Nat) (k : Nat) : Prop := k ≤ 12 ∧ ∀ j, j < k → (1 ≤ w j ∧ w j ≤ 9504) ∧ (2 ≤ c j ∧ c j ≤ 17) ∧ nb j < 16
theorem OkK.w {w c : Nat → Int} {nb : Nat → Nat} {k : Nat} (h : OkK w c nb k) (f : Nat → Bool) {i m : Nat} (hi : i + m ≤ k) : 0 ≤ smK w f i m ∧ smK w f i m ≤ 114048 := by
  have a := smK_rng (g := w) (f := f) (b := 9504) m i (fun j h1 h2 => by have := h.2 j (by omega); omega)
  have := h.1
  omega
theorem OkK.c {w c : Nat → Int} {nb : Nat → Nat} {k : Nat} (h : OkK w c nb k) (f : Nat → Bool) {i m : Nat} (hi : i + m ≤ k) : 0 ≤ smK c f i m ∧ smK c f i m ≤ 204 := by
  have a := smK_rng (g := c) (f := f) (b := 17) m i (fun j h1 h2 => by have := h.2 j (by omega); omega)
  have := h.1
  omega
/-- the best choice out of the places i .. i + m - 1 for a space S, by its worth, cost and bits -/
def DpK (w c : Nat → Int) (nb : Nat → Nat) (i m S : Nat) (x y z : Int32) : Prop := ∃ f : Nat → Bool, smK c f i m ≤ S ∧ (∀ g : Nat → Bool, smK c g i m ≤ S → smK (kpK w c) g i m ≤ smK (kpK w c) f i m) ∧ x = zI (smK w f i m) ∧ y = zI (smK c f i m) ∧ ∀ j, bt z j = mkK nb f j i m
theorem DpK.no {w c : Nat → Int} {nb : Nat → Nat} {k i m S : Nat} {x y z : Int32} (hk : OkK w c nb k) (h1 : i + (m + 1) ≤ k) (hS : (S : Int) < c i) (h : DpK w c nb (i + 1) m S x y z) : DpK w c nb i (m + 1) S x y z := by
  obtain ⟨f, f1, f2, f3, f4, f5⟩ := h
  refine ⟨upK f i false, ?_, fun g hg => ?_, ?_, ?_, fun j => ?_⟩
  · rw [smK_up, if_neg (by decide)]
    omega
  · rw [smK_up, if_neg (by decide)]
    rw [smK_s] at hg ⊢
    have r := hk.c g (i := i + 1) (m := m) (by omega)
    by_cases e : g i = true
    · rw [if_pos e] at hg
      omega
    · rw [if_neg e] at hg ⊢
      have := f2 g (by omega)
      omega
  · rw [smK_up, if_neg (by decide), f3]
    exact zI_c (by omega)
  · rw [smK_up, if_neg (by decide), f4]
    exact zI_c (by omega)
  · rw [mkK_up, f5]
    rfl
theorem DpK.two {w c : Nat → Int} {nb : Nat → Nat} {k i m S T : Nat} {x y z a b e : Int32} (hk : OkK w c nb k) (h1 : i + (m + 1) ≤ k) (hT : (T : Int) + c i = S) (h : DpK w c nb (i + 1) m S x y z) (g : DpK w c nb (i + 1) m T a b e) : ((¬ a + zI (w i) ≤ x ∨ (a + zI (w i) = x ∧ ¬ y < b + zI (c i))) → DpK w c nb i (m + 1) S (a + zI (w i)) (b + zI (c i)) (e ||| b5 (nb i))) ∧ (¬ (¬ a + zI (w i) ≤ x ∨ (a + zI (w i) = x ∧ ¬ y < b + zI (c i))) → DpK w c nb i (m + 1) S x y z) := by
  obtain ⟨f, f1, f2, rfl, rfl, f5⟩ := h
  obtain ⟨f', g1, g2, rfl, rfl, g5⟩ := g
  have o := hk.2 i (by omega)
  have wf := hk.w f (i := i + 1) (m := m) (by omega)
  have wg := hk.w f' (i := i + 1) (m := m) (by omega)
  have cf := hk.c f (i := i + 1) (m := m) (by omega)
  have cg := hk.c f' (i := i + 1) (m := m) (by omega)
  have rf := rhK_lt f (m := m) (i := i) (by have := hk.1; omega)
  have rg := rhK_lt f' (m := m) (i := i) (by have := hk.1; omega)
  have r0 := rhK_le i
  have kf := smK_key w c f m (i + 1)
  have kg := smK_key w c f' m (i + 1)
  have ki := kpK_at w c i
  rw [zI_add, zI_add, zI_le (by omega) (by omega) (by omega) (by omega), zI_eq (by omega) (by omega) (by omega) (by omega), zI_lt (by omega) (by omega) (by omega) (by omega)]
  constructor
  · intro tk
    refine ⟨upK f' i true, ?_, fun g hg => ?_, ?_, ?_, fun j => ?_⟩
    · rw [smK_up, if_pos rfl]
      omega
    · rw [smK_up, if_pos rfl]
      rw [smK_s] at hg ⊢
      by_cases e : g i = true
      · rw [if_pos e] at hg ⊢
        have := g2 g (by omega)
        omega
      · rw [if_neg e] at hg ⊢
        have := f2 g (by omega)
        omega
    · rw [smK_up, if_pos rfl]
      exact zI_c (by omega)
    · rw [smK_up, if_pos rfl]
      exact zI_c (by omega)
    · rw [mkK_up, bt_or, g5, bt_b5 (by omega), Bool.true_and, Bool.or_comm]
  · intro tk
    refine ⟨upK f i false, ?_, fun g hg => ?_, ?_, ?_, fun j => ?_⟩
    · rw [smK_up, if_neg (by decide)]
      omega
    · rw [smK_up, if_neg (by decide)]
      rw [smK_s] at hg ⊢
      by_cases e : g i = true
      · rw [if_pos e] at hg ⊢
        have := g2 g (by omega)
        omega
      · rw [if_neg e] at hg ⊢
        have := f2 g (by omega)
        omega
    · rw [smK_up, if_neg (by decide)]
      exact zI_c (by omega)
    · rw [smK_up, if_neg (by decide)]
      exact zI_c (by omega)
    · rw [mkK_up, f5]
      rfl
/-- there is but one best choice -/
theorem DpK.uni {w c : Nat → Int} {nb : Nat → Nat} {k S : Nat} {x y z a b e : Int32} (hk : OkK w c nb k) (h : DpK w c nb 0 k S x y z) (g : DpK w c nb 0 k S a b e) : z = e := by
  obtain ⟨f, f1, f2, -, -, f5⟩ := h
  obtain ⟨f', g1, g2, -, -, g5⟩ := g
  have h1 := f2 f' g1
  have h2 := g2 f f1
  have hk1 := hk.1
  have cf := hk.c f (i := 0) (m := k) (by omega)
  have cg := hk.c f' (i := 0) (m := k) (by omega)
  have rf := rhK_rng f k 0 (by omega)
  have rg := rhK_rng f' k 0 (by omega)
  have e12 : (2 : Nat) ^ (12 - 0) = 4096 := by decide
  rw [e12] at rf rg
  have kf := smK_key w c f k 0
  have kg := smK_key w c f' k 0
  have er : smK rhK f 0 k = smK rhK f' 0 k := by omega
  apply bt_ext
  intro j _
  rw [f5, g5]
  exact mkK_cong k 0 (rhK_inj k 0 (by omega) er)
/-- any choice by the bits of a number -/
def nOf (f : Nat → Bool) : Nat → Nat
  | 0 => 0
  | k + 1 => nOf f k ||| (if f k = true then 2 ^ k else 0)
theorem nOf_ok (f : Nat → Bool) : ∀ k, nOf f k < 2 ^ k ∧ ∀ j, j < k → (nOf f k).testBit j = f j
  | 0 => ⟨Nat.one_pos, fun j hj => by omega⟩
  | k + 1 => by
    have ih := nOf_ok f k
    have h2 : 2 ^ k < 2 ^ (k + 1) := Nat.pow_lt_pow_right (by omega) (by omega)
    refine ⟨?_, fun j hj => ?_⟩
    · rw [nOf]
      refine Nat.or_lt_two_pow (by omega) ?_
      by_cases e : f k = true
      · rw [if_pos e]; exact h2
      · rw [if_neg e]; exact Nat.two_pow_pos _
    · rw [nOf, Nat.testBit_or]
      by_cases e : f k = true
      · rw [if_pos e, Nat.testBit_two_pow]
        by_cases g : j = k
        · rw [g, e, decide_eq_true rfl, Bool.or_true]
        · rw [ih.2 j (by omega), decide_eq_false (fun h => g h.symm), Bool.or_false]
      · rw [if_neg e, Nat.zero_testBit, Bool.or_false]
        by_cases g : j = k
        · rw [g, Nat.testBit_lt_two_pow ih.1]
          cases h : f k with
          | false => rfl
          | true => exact absurd h e
        · exact ih.2 j (by omega)
