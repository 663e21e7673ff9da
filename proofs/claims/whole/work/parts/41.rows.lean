/-! ROWS by bits -/
theorem on_bit {q : Cfg} {p : Nat → Nat} {v : Nat} {m : Int32} (hq : okC q) (hm : Mk q (fun c => decide (p c = v)) m) {X Y : Int} (hX : -1 ≤ X ∧ X ≤ cW q) (hY : -1 ≤ Y ∧ Y ≤ cH q) : (decide (0 ≤ 5 * Y + X) && bt m (5 * Y + X).toNat) = onB q p v X Y := by
  obtain ⟨q1, q2, q3, q4, -⟩ := hq
  by_cases h : (0 ≤ X ∧ X < cW q) ∧ 0 ≤ Y ∧ Y < cH q
  · obtain ⟨⟨h1, h2⟩, h3, h4⟩ := h
    have e0 : (5 * Y + X).toNat % 5 = X.toNat := by omega
    have e1 : (5 * Y + X).toNat / 5 = Y.toNat := by omega
    have e2 : inBd q (5 * Y + X).toNat = true := by
      unfold inBd
      rw [decide_eq_true_eq, e0, e1]
      omega
    have e3 : c5 q (5 * Y + X).toNat = cW q * Y.toNat + X.toNat := by
      unfold c5
      rw [e0, e1]
    rw [hm, e2, e3, decide_eq_true (show 0 ≤ 5 * Y + X by omega)]
    unfold onB
    simp [h1, h2, h3, h4]
  · have e1 : onB q p v X Y = false := by
      cases e : onB q p v X Y with
      | false => rfl
      | true =>
        have g := onB_in e
        exact absurd ⟨⟨g.1, g.2.1⟩, g.2.2.1, g.2.2.2.1⟩ h
    rw [e1]
    by_cases h0 : 0 ≤ 5 * Y + X
    · have e2 : inBd q (5 * Y + X).toNat = false := by
        unfold inBd
        rw [decide_eq_false_iff_not]
        intro g
        omega
      rw [hm, e2]
      simp
    · rw [decide_eq_false h0]
      rfl
def rB (a1 a2 a3 a4 : Bool) : Nat := if a1 = true then 1 + (if a2 = true then 1 + (if a3 = true then 1 + (if a4 = true then 1 + 0 else 0) else 0) else 0) else 0
def lnB (k : Nat) (a1 a2 a3 b1 b2 b3 : Bool) : Bool := if k = 2 then a1 || b1 else if k = 3 then (a1 && a2) || (b1 && b2) || (a1 && b1) else ((a1 && a2 && a3) || (b1 && b2 && b3)) || ((a1 && a2 && b1) || (a1 && (b1 && b2)))
theorem rB_2 : ∀ a1 a2 a3 a4 b1 b2 b3 b4 : Bool, decide (2 ≤ 1 + rB a1 a2 a3 a4 + rB b1 b2 b3 b4) = lnB 2 a1 a2 a3 b1 b2 b3 := by decide
theorem rB_3 : ∀ a1 a2 a3 a4 b1 b2 b3 b4 : Bool, decide (3 ≤ 1 + rB a1 a2 a3 a4 + rB b1 b2 b3 b4) = lnB 3 a1 a2 a3 b1 b2 b3 := by decide
theorem rB_4 : ∀ a1 a2 a3 b1 b2 b3 : Bool, decide (4 ≤ 1 + rB a1 a2 a3 false + rB b1 b2 b3 false) = lnB 4 a1 a2 a3 b1 b2 b3 := by decide
theorem runF_4 (q : Cfg) (p : Nat → Nat) (v : Nat) (dx dy x y : Int) : runF q p v dx dy 4 x y = rB (onB q p v x y) (onB q p v (x + dx) (y + dy)) (onB q p v (x + dx + dx) (y + dy + dy)) (onB q p v (x + dx + dx + dx) (y + dy + dy + dy)) := rfl
theorem lineAt_B {q : Cfg} {p : Nat → Nat} {v c : Nat} {dx dy : Int} (hq : okC q) (hc : c < cN q) (hdx : -1 ≤ dx ∧ dx ≤ 1) (hdy : -1 ≤ dy ∧ dy ≤ 1) (hd : dx ≠ 0 ∨ dy ≠ 0) : lineAt q p v c dx dy = lnB (cK q) (onB q p v (cX q c + dx) (cY q c + dy)) (onB q p v (cX q c + dx + dx) (cY q c + dy + dy)) (onB q p v (cX q c + dx + dx + dx) (cY q c + dy + dy + dy)) (onB q p v (cX q c + -dx) (cY q c + -dy)) (onB q p v (cX q c + -dx + -dx) (cY q c + -dy + -dy)) (onB q p v (cX q c + -dx + -dx + -dx) (cY q c + -dy + -dy + -dy)) := by
  obtain ⟨x1, x2, -⟩ := cell_xy hq hc
  obtain ⟨q1, q2, q3, q4, q5, q6⟩ := hq
  have X0 : 0 ≤ cX q c ∧ cX q c < cW q := by
    unfold cX
    generalize c % cW q = a at x1
    omega
  have Y0 : 0 ≤ cY q c ∧ cY q c < cH q := by
    unfold cY
    generalize c / cW q = a at x2
    omega
  have far : ∀ ex ey : Int, (ex = dx ∧ ey = dy) ∨ (ex = -dx ∧ ey = -dy) → onB q p v (cX q c + ex + ex + ex + ex) (cY q c + ey + ey + ey + ey) = false := by
    intro ex ey he
    cases e : onB q p v (cX q c + ex + ex + ex + ex) (cY q c + ey + ey + ey + ey) with
    | false => rfl
    | true =>
      have g := onB_in e
      generalize cX q c = a at *
      generalize cY q c = b at *
      omega
  unfold lineAt
  rw [runF_4, runF_4, far dx dy (Or.inl ⟨rfl, rfl⟩), far (-dx) (-dy) (Or.inr ⟨rfl, rfl⟩)]
  rcases (show cK q = 2 ∨ cK q = 3 ∨ cK q = 4 by omega) with e | e | e
  · rw [e, rB_2]
  · rw [e, rB_3]
  · rw [e, rB_4]
theorem lineAt_neg {q : Cfg} {p : Nat → Nat} {v c : Nat} {dx dy : Int} : lineAt q p v c (-dx) (-dy) = lineAt q p v c dx dy := by
  unfold lineAt
  rw [Int.neg_neg, Int.neg_neg]
  congr 1
  apply propext
  omega
/-- what a step adds at a bit -/
def cmB (k : Nat) (m : Int32) (t i : Nat) : Bool := lnB k (bt m (t + i)) (bt m (t + (t + i))) (bt m (t + (t + (t + i)))) (!decide (i < t) && bt m (i - t)) (!decide (i - t < t) && bt m (i - t - t)) (!decide (i - t - t < t) && bt m (i - t - t - t))
theorem lnB_cong {k : Nat} {a1 a2 a3 b1 b2 b3 x1 x2 x3 y1 y2 y3 : Bool} (h1 : a1 = x1) (h2 : a1 = true → a2 = x2) (h3 : a1 = true → a2 = true → a3 = x3) (g1 : b1 = y1) (g2 : b1 = true → b2 = y2) (g3 : b1 = true → b2 = true → b3 = y3) : lnB k a1 a2 a3 b1 b2 b3 = lnB k x1 x2 x3 y1 y2 y3 := by
  subst h1
  subst g1
  unfold lnB
  cases a1 <;> cases b1 <;> cases a2 <;> cases b2 <;> simp_all
theorem cm_line {q : Cfg} {p : Nat → Nat} {v c t : Nat} {m : Int32} {dx dy : Int} (hq : okC q) (hm : Mk q (fun c => decide (p c = v)) m) (hc : c < cN q) (hdx : -1 ≤ dx ∧ dx ≤ 1) (hdy : 0 ≤ dy ∧ dy ≤ 1) (ht : (t : Int) = 5 * dy + dx) (ht1 : 1 ≤ t) : cmB (cK q) m t (p5 q c) = lineAt q p v c dx dy := by
  obtain ⟨x1, x2, -⟩ := cell_xy hq hc
  obtain ⟨q1, q2, q3, q4, -⟩ := id hq
  have X0 : 0 ≤ cX q c ∧ cX q c < cW q := by
    unfold cX
    generalize c % cW q = a at x1
    omega
  have Y0 : 0 ≤ cY q c ∧ cY q c < cH q := by
    unfold cY
    generalize c / cW q = a at x2
    omega
  have hp : (p5 q c : Int) = 5 * cY q c + cX q c := by
    unfold p5 cX cY
    omega
  rw [lineAt_B hq hc hdx (by omega) (by omega)]
  generalize p5 q c = i at *
  generalize cX q c = X at *
  generalize cY q c = Y at *
  have up : ∀ (A B : Int) (j : Nat), (0 ≤ A ∧ A < cW q) → (0 ≤ B ∧ B < cH q) → (j : Int) = 5 * B + A → bt m (t + j) = onB q p v (A + dx) (B + dy) := by
    intro A B j hA hB hj
    rw [← on_bit hq hm (X := A + dx) (Y := B + dy) (by omega) (by omega), decide_eq_true (show 0 ≤ 5 * (B + dy) + (A + dx) by omega)]
    have e : (5 * (B + dy) + (A + dx)).toNat = t + j := by omega
    rw [e]
    rfl
  have dn : ∀ (A B : Int) (j : Nat), (0 ≤ A ∧ A < cW q) → (0 ≤ B ∧ B < cH q) → (j : Int) = 5 * B + A → (!decide (j < t) && bt m (j - t)) = onB q p v (A + -dx) (B + -dy) := by
    intro A B j hA hB hj
    rw [← on_bit hq hm (X := A + -dx) (Y := B + -dy) (by omega) (by omega)]
    by_cases e : j < t
    · rw [decide_eq_true e, decide_eq_false (show ¬ 0 ≤ 5 * (B + -dy) + (A + -dx) by omega)]
      rfl
    · rw [decide_eq_false e, decide_eq_true (show 0 ≤ 5 * (B + -dy) + (A + -dx) by omega)]
      have e2 : (5 * (B + -dy) + (A + -dx)).toNat = j - t := by omega
      rw [e2]
      rfl
  have u1 := up X Y i X0 Y0 hp
  have d1 := dn X Y i X0 Y0 hp
  unfold cmB
  refine lnB_cong u1 (fun g => ?_) (fun g g2 => ?_) d1 (fun g => ?_) (fun g g2 => ?_)
  · rw [u1] at g
    have g9 := onB_in g
    exact up (X + dx) (Y + dy) (t + i) (by omega) (by omega) (by omega)
  · rw [u1] at g
    have g9 := onB_in g
    have u2 := up (X + dx) (Y + dy) (t + i) (by omega) (by omega) (by omega)
    rw [u2] at g2
    have g8 := onB_in g2
    exact up (X + dx + dx) (Y + dy + dy) (t + (t + i)) (by omega) (by omega) (by omega)
  · rw [d1] at g
    have g9 := onB_in g
    exact dn (X + -dx) (Y + -dy) (i - t) (by omega) (by omega) (by omega)
  · rw [d1] at g
    have g9 := onB_in g
    have u2 := dn (X + -dx) (Y + -dy) (i - t) (by omega) (by omega) (by omega)
    rw [u2] at g2
    have g8 := onB_in g2
    exact dn (X + -dx + -dx) (Y + -dy + -dy) (i - t - t) (by omega) (by omega) (by omega)
