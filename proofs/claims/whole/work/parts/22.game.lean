/-! THE GAME: the board q = (W, H, K, gravity, rows lose); a position p tells of each cell 0, 1 (whose stone) or 2 (free) -/
abbrev Cfg : Type := Nat × Nat × Nat × Bool × Bool
def cW (q : Cfg) : Nat := q.1
def cH (q : Cfg) : Nat := q.2.1
def cK (q : Cfg) : Nat := q.2.2.1
def cG (q : Cfg) : Bool := q.2.2.2.1
def cL (q : Cfg) : Bool := q.2.2.2.2
def cN (q : Cfg) : Nat := cW q * cH q
def okC (q : Cfg) : Prop := 2 ≤ cW q ∧ cW q ≤ 4 ∧ 2 ≤ cH q ∧ cH q ≤ 4 ∧ 2 ≤ cK q ∧ cK q ≤ 4
def bI (b : Bool) : Int := if b then 1 else 0
def onB (q : Cfg) (p : Nat → Nat) (v : Nat) (x y : Int) : Bool := decide (0 ≤ x ∧ x < cW q ∧ 0 ≤ y ∧ y < cH q ∧ p (cW q * y.toNat + x.toNat) = v)
def runF (q : Cfg) (p : Nat → Nat) (v : Nat) (dx dy : Int) : Nat → Int → Int → Nat
  | 0, _, _ => 0
  | f + 1, x, y => if onB q p v x y = true then 1 + runF q p v dx dy f (x + dx) (y + dy) else 0
def cX (q : Cfg) (c : Nat) : Int := (c % cW q : Nat)
def cY (q : Cfg) (c : Nat) : Int := (c / cW q : Nat)
def lineAt (q : Cfg) (p : Nat → Nat) (v c : Nat) (dx dy : Int) : Bool := decide (cK q ≤ 1 + runF q p v dx dy 4 (cX q c + dx) (cY q c + dy) + runF q p v (-dx) (-dy) 4 (cX q c + -dx) (cY q c + -dy))
def rowAt (q : Cfg) (p : Nat → Nat) (v c : Nat) : Bool := lineAt q p v c 1 0 || lineAt q p v c 0 1 || lineAt q p v c 1 1 || lineAt q p v c 1 (-1)
def isMv (q : Cfg) (p : Nat → Nat) (c : Nat) : Bool := decide (c < cN q ∧ p c = 2 ∧ (cG q = false ∨ c < cW q ∨ p (c - cW q) ≠ 2))
def set1 (p : Nat → Nat) (c v : Nat) : Nat → Nat := fun j => if j = c then v else p j
def posF (mv : Nat → Nat) : Nat → Nat → Nat
  | 0 => fun _ => 2
  | n + 1 => set1 (posF mv n) (mv n) (n % 2)
/-- how a game stands behind n moves: 3 goes on, 2 nobody, else who won -/
def winF (q : Cfg) (mv : Nat → Nat) : Nat → Nat
  | 0 => 3
  | n + 1 => if rowAt q (posF mv n) (n % 2) (mv n) = true then (if cL q = true then 1 - n % 2 else n % 2) else if n + 1 = cN q then 2 else 3
def okM (q : Cfg) (mv : Nat → Nat) (n : Nat) : Prop := ∀ i, i < n → winF q mv i = 3 ∧ isMv q (posF mv i) (mv i) = true
def bestF (f : Nat → Int) (ok : Nat → Bool) : Nat → Int
  | 0 => -2
  | m + 1 => if ok m = true then max (bestF f ok m) (f m) else bestF f ok m
/-- the value for who is to move behind a move: who set it, from there on -/
def valF (q : Cfg) : Nat → (Nat → Nat) → Nat → Int
  | 0, _, _ => 0
  | d + 1, p, n => bestF (fun c => if rowAt q p (n % 2) c = true then (if cL q = true then -1 else 1) else if n + 1 = cN q then 0 else -(valF q d (set1 p c (n % 2)) (n + 1))) (isMv q p) (cN q)
/-! plain facts -/
theorem okC_n {q : Cfg} (h : okC q) : 4 ≤ cN q ∧ cN q ≤ 16 := by
  obtain ⟨h1, h2, h3, h4, -⟩ := h
  unfold cN
  have e1 : 2 * 2 ≤ cW q * cH q := Nat.mul_le_mul h1 h3
  have e2 : cW q * cH q ≤ 4 * 4 := Nat.mul_le_mul h2 h4
  omega
theorem cell_xy {q : Cfg} (h : okC q) {c : Nat} (hc : c < cN q) : c % cW q < cW q ∧ c / cW q < cH q ∧ cW q * (c / cW q) + c % cW q = c := by
  obtain ⟨h1, h2, h3, h4, -⟩ := h
  refine ⟨Nat.mod_lt _ (by omega), ?_, Nat.div_add_mod c (cW q)⟩
  rw [Nat.div_lt_iff_lt_mul (by omega), Nat.mul_comm]
  exact hc
theorem onB_in {q : Cfg} {p : Nat → Nat} {v : Nat} {x y : Int} (h : onB q p v x y = true) : 0 ≤ x ∧ x < cW q ∧ 0 ≤ y ∧ y < cH q ∧ p (cW q * y.toNat + x.toNat) = v := of_decide_eq_true h
theorem posF_le (mv : Nat → Nat) : ∀ (n j : Nat), posF mv n j ≤ 2
  | 0, j => Nat.le_refl 2
  | n + 1, j => by
    show set1 (posF mv n) (mv n) (n % 2) j ≤ 2
    unfold set1
    by_cases h : j = mv n
    · rw [if_pos h]; omega
    · rw [if_neg h]; exact posF_le mv n j
/-- of runs: a stone that is set where the line begins isn't counted -/
theorem runF_cong {q : Cfg} {p p2 : Nat → Nat} {v : Nat} {dx dy : Int} : ∀ (f : Nat) (x y : Int), (∀ j : Nat, j < f → onB q p v (x + j * dx) (y + j * dy) = onB q p2 v (x + j * dx) (y + j * dy)) → runF q p v dx dy f x y = runF q p2 v dx dy f x y
  | 0, _, _, _ => rfl
  | f + 1, x, y, h => by
    have h0 := h 0 (by omega)
    simp only [Int.natCast_zero, Int.zero_mul, Int.add_zero, Int.ofNat_zero] at h0
    have ih := runF_cong (q := q) (p := p) (p2 := p2) (v := v) (dx := dx) (dy := dy) f (x + dx) (y + dy) (fun j hj => by
      have h1 := h (j + 1) (by omega)
      have e1 : x + ((j + 1 : Nat) : Int) * dx = x + dx + j * dx := by rw [Int.natCast_add, Int.add_mul]; omega
      have e2 : y + ((j + 1 : Nat) : Int) * dy = y + dy + j * dy := by rw [Int.natCast_add, Int.add_mul]; omega
      rw [e1, e2] at h1
      exact h1)
    rw [runF, runF, h0, ih]
theorem onB_set {q : Cfg} {p : Nat → Nat} {v u c : Nat} {x y : Int} (hx : x ≠ cX q c ∨ y ≠ cY q c) : onB q (set1 p c u) v x y = onB q p v x y := by
  unfold onB
  by_cases h : 0 ≤ x ∧ x < cW q ∧ 0 ≤ y ∧ y < cH q
  · obtain ⟨h1, h2, h3, h4⟩ := h
    have hne : cW q * y.toNat + x.toNat ≠ c := by
      intro e
      have hw : 0 < cW q := by omega
      have hm : c % cW q = x.toNat := by
        rw [← e, Nat.mul_add_mod, Nat.mod_eq_of_lt (by omega)]
      have hd : c / cW q = y.toNat := by
        rw [← e, Nat.mul_add_div hw, Nat.div_eq_of_lt (by omega), Nat.add_zero]
      unfold cX cY at hx
      rw [hm, hd] at hx
      omega
    have e : set1 p c u (cW q * y.toNat + x.toNat) = p (cW q * y.toNat + x.toNat) := by
      unfold set1
      rw [if_neg hne]
    rw [e]
  · have e1 : ∀ A : Prop, (0 ≤ x ∧ x < cW q ∧ 0 ≤ y ∧ y < cH q ∧ A) = False := fun A => by
      apply eq_false
      intro g
      exact h ⟨g.1, g.2.1, g.2.2.1, g.2.2.2.1⟩
    simp only [e1]
theorem lineAt_set {q : Cfg} {p : Nat → Nat} {v u c : Nat} {dx dy : Int} (hd : dx ≠ 0 ∨ dy ≠ 0) : lineAt q (set1 p c u) v c dx dy = lineAt q p v c dx dy := by
  have key : ∀ (ex ey : Int), ex ≠ 0 ∨ ey ≠ 0 → runF q (set1 p c u) v ex ey 4 (cX q c + ex) (cY q c + ey) = runF q p v ex ey 4 (cX q c + ex) (cY q c + ey) := by
    intro ex ey he
    refine runF_cong 4 _ _ (fun j hj => onB_set ?_)
    rcases he with he | he
    · left
      intro e
      have e2 : ex * (1 + j) = 0 := by rw [Int.mul_add, Int.mul_one, Int.mul_comm ex j]; omega
      rcases Int.mul_eq_zero.mp e2 with h | h
      · exact he h
      · omega
    · right
      intro e
      have e2 : ey * (1 + j) = 0 := by rw [Int.mul_add, Int.mul_one, Int.mul_comm ey j]; omega
      rcases Int.mul_eq_zero.mp e2 with h | h
      · exact he h
      · omega
  unfold lineAt
  rw [key dx dy hd, key (-dx) (-dy) (by omega)]
theorem rowAt_set {q : Cfg} {p : Nat → Nat} {v u c : Nat} : rowAt q (set1 p c u) v c = rowAt q p v c := by
  unfold rowAt
  rw [lineAt_set (by omega), lineAt_set (by omega), lineAt_set (by omega), lineAt_set (by omega)]
